/-! new entries and rows; tellOf -/
theorem wT_comm {c : CS} {a b : Nat} {x y : List Int} (h : ¬ a = b) : wT (wT c a x) b y = wT (wT c b y) a x := by
  have : (fun z => if z = b then y else (if z = a then x else yT c z)) = (fun z => if z = a then x else (if z = b then y else yT c z)) := funext fun z => by
    by_cases q : z = b
    · rw [if_pos q, if_neg (fun r => h (r.symm.trans q)), if_pos q]
    · rw [if_neg q]
      by_cases q2 : z = a
      · rw [if_pos q2, if_pos q2]
      · rw [if_neg q2, if_neg q2, if_neg q]
  show (yU c, yK c, yI c, yP c, (fun z => if z = b then y else (if z = a then x else yT c z)), yE c) = _
  rw [this]
  rfl
section CNew2
variable {g : Nat → Nat} {B : Nat} {O : Nat → Prop} {c d : CS} {Q : Rs → CS → Prop} {ℓ ℓ' : LB} {Es : List Nat} {D : Db} {r n : Nat}
theorem PsI.fs {p : Nat} (h : PsI c ℓ p) (hF : FS (fun a => a = r) ℓ ℓ' c d) (hr : ¬ (ℓ r).1 = p) (hrp : ¬ r = p) : PsI d ℓ' p :=
  h.keep (fun a ha => ⟨(hF.1 a ha).2, (hF.1 a ha).1⟩) (fun a ha hS => hF.2 a ha (fun q => by
    subst q
    rcases hS with s | s
    · exact hrp s
    · exact hr s))
/-- a new Text in a place of an object -/
theorem slot_new {J : Nat → Prop} {b j : Nat} (hs : ∀ i : Nat, J i → ∃ a, yP c r i = some a ∧ yK c a = 7 ∧ ℓ a = (r, i)) (hb : yK c b = 0) (hr : ¬ yK c r = 0) (hd : d = wP (wN c b 7 0 4100) r j (some b)) : (∀ i : Nat, (i = j ∨ J i) → ∃ a, yP d r i = some a ∧ yK d a = 7 ∧ upL ℓ b (r, j) a = (r, i)) ∧ FS (fun a => a = r) ℓ (upL ℓ b (r, j)) c d ∧ yU d = yU c + 4100 ∧ (∀ i : Int, ¬ i = j → yP d r i = yP c r i) ∧ yI d r = yI c r := by
  have nb : ∀ x, ¬ yK c x = 0 → ¬ x = b := fun x hx q => hx (by rw [q]; exact hb)
  have kp : ∀ x, ¬ x = b → ¬ x = r → Kp c d x := fun x h1 h2 => by rw [hd]; exact (Kp_wN h1).trans (Kp_wP h2)
  have kK : ∀ x, yK d x = if x = b then 7 else yK c x := fun x => by rw [hd]; rfl
  have pP : ∀ i : Int, yP d r i = if i = (j : Int) then some b else yP c r i := fun i => by
    rw [hd, yP_wP]
    by_cases q : i = (j : Int)
    · rw [if_pos ⟨rfl, q⟩, if_pos q]
    · rw [if_neg (fun s => q s.2), if_neg q, (Kp_wN (nb r hr)).2.2.1]
  refine ⟨fun i hi => ?_, ⟨fun x hx => ⟨by rw [kK, if_neg (nb x hx)], upL_ne (nb x hx)⟩, fun x hx hS => kp x (nb x hx) hS⟩, by rw [hd]; rfl, fun i hi => by rw [pP, if_neg hi], by rw [hd]; exact (Kp_wN (κ := 7) (cost := 4100) (n := 0) (nb r hr)).2.1⟩
  by_cases q : i = j
  · exact ⟨b, by rw [pP, if_pos (by omega)], by rw [kK, if_pos rfl], by rw [upL_eq, q]⟩
  · obtain ⟨a, a1, a2, a3⟩ := hs i (hi.resolve_left q)
    have hab := nb a (by omega)
    exact ⟨a, by rw [pP, if_neg (by omega)]; exact a1, by rw [kK, if_neg hab]; exact a2, by rw [upL_ne hab]; exact a3⟩
theorem t38 {e : Nat} (hK : yK c r = 6) (hl : ℓ r = (r, 0)) (hU : yU c + 40200 ≤ B) (h : ∀ d ℓ', RoI d ℓ' r → FS (fun a => a = r) ℓ ℓ' c d → yU d ≤ yU c + 40124 → Q (Sum.inl none) d) : CW g B O 38 0 [some (.ref r), some (.ref e)] [] c Q := by
  refine c38_0 ⟨by omega, fun p hp d2 e2 => ?_⟩
  have np' : ∀ x, ¬ yK c x = 0 → ¬ x = p := fun x hx q => hx (by rw [q]; exact hp)
  have rp := np' r (by omega)
  have k2 : ∀ x, yK d2 x = if x = p then 5 else yK c x := fun x => by rw [e2]; rfl
  have k2r : yK d2 r = 6 := by rw [k2, if_neg rp]; exact hK
  have F2 : FS (fun a => a = r) ℓ (upL ℓ p (r, 1)) c d2 := ⟨fun x hx => ⟨by rw [k2, if_neg (np' x hx)], upL_ne (np' x hx)⟩, fun x hx _ => by rw [e2]; exact Kp_wN (np' x hx)⟩
  have U2 : yU d2 = yU c + 15 := by rw [e2]; rfl
  refine t18 (ℓ := upL ℓ p (r, 1)) (by rw [k2, if_pos rfl]) (by omega) (fun d3 ℓ3 P3 F3 U3 => ?_)
  have hpK : ¬ yK d2 p = 0 := by rw [k2, if_pos rfl]; decide
  have l3p : ℓ3 p = (r, 1) := by rw [(F3.1 p hpK).2, upL_eq]
  have l3r : ℓ3 r = (r, 0) := by rw [(F3.1 r (by omega)).2, upL_ne rp]; exact hl
  have k3r : yK d3 r = 6 := by rw [(F3.1 r (by omega)).1]; exact k2r
  -- all that was: r apart
  have F3' : FS (fun a => a = r) ℓ ℓ3 c d3 := by
    refine ⟨fun x hx => ?_, fun x hx hS => ?_⟩
    · obtain ⟨q1, q2⟩ := F2.1 x hx
      obtain ⟨s1, s2⟩ := F3.1 x (by rw [q1]; exact hx)
      exact ⟨s1.trans q1, s2.trans q2⟩
    · exact (F2.2 x hx hS).trans (F3.2 x (by rw [(F2.1 x hx).1]; exact hx) (np' x hx))
  refine c38_12 ⟨k3r, fun d4 e4 => ?_⟩
  have K4 : ∀ x, yK d4 x = yK d3 x := fun x => by rw [e4]; rfl
  have F4 : FS (fun a => a = r) ℓ3 ℓ3 d3 d4 := ⟨fun x _ => ⟨K4 x, rfl⟩, fun x _ hx => by rw [e4]; exact Kp_wP hx⟩
  have p4 : yP d4 r 1 = some p := by rw [e4, yP_wP, if_pos ⟨rfl, rfl⟩]
  have U4 : yU d4 = yU d3 := by rw [e4]; rfl
  have k4r : yK d4 r = 6 := by rw [K4]; exact k3r
  refine ⟨by omega, fun b3 hb3 d5 e5 => ⟨by rw [e5, yK_wN, if_neg (fun q => by rw [← q, k4r] at hb3; omega)]; exact k4r, fun d6 e6 => ?_⟩⟩
  obtain ⟨S6, F6, U6, P6, -⟩ := slot_new (c := d4) (d := d6) (ℓ := ℓ3) (r := r) (J := fun _ => False) (j := 2) (fun i hi => hi.elim) hb3 (by omega) (by rw [e6, e5]; rfl)
  have k6r : yK d6 r = 6 := by rw [(F6.1 r (by omega)).1]; exact k4r
  refine ⟨by omega, fun b8 hb8 d9 e9 => ⟨by rw [e9, yK_wN, if_neg (fun q => by rw [← q, k6r] at hb8; omega)]; exact k6r, fun d11 e11 => ?_⟩⟩
  obtain ⟨S11, F11, U11, P11, -⟩ := slot_new (c := d6) (d := d11) (r := r) (J := fun i => i = 2 ∨ False) (j := 3) S6 hb8 (by omega) (by rw [e11, e9]; rfl)
  have k11r : yK d11 r = 6 := by rw [(F11.1 r (by omega)).1]; exact k6r
  refine ⟨by omega, fun b13 hb13 d14 e14 => ⟨by rw [e14, yK_wN, if_neg (fun q => by rw [← q, k11r] at hb13; omega)]; exact k11r, fun d16 e16 => ?_⟩⟩
  obtain ⟨S16, F16, U16, P16, -⟩ := slot_new (c := d11) (d := d16) (r := r) (J := fun i => i = 3 ∨ i = 2 ∨ False) (j := 4) S11 hb13 (by omega) (by rw [e16, e14]; rfl)
  have k16r : yK d16 r = 6 := by rw [(F16.1 r (by omega)).1]; exact k11r
  refine ⟨by omega, fun b18 hb18 d19 e19 => ⟨by rw [e19, yK_wN, if_neg (fun q => by rw [← q, k16r] at hb18; omega)]; exact k16r, fun d21 e21 => ?_⟩⟩
  obtain ⟨S21, F21, U21, P21, -⟩ := slot_new (c := d16) (d := d21) (r := r) (J := fun i => i = 4 ∨ i = 3 ∨ i = 2 ∨ False) (j := 5) S16 hb18 (by omega) (by rw [e21, e19]; rfl)
  have k21r : yK d21 r = 6 := by rw [(F21.1 r (by omega)).1]; exact k16r
  refine ⟨k21r, fun d23 e23 => ?_⟩
  have K23 : ∀ x, yK d23 x = yK d21 x := fun x => by rw [e23]; rfl
  have P23 : yP d23 = yP d21 := by rw [e23]; rfl
  have F23 : ∀ ℓ0 : LB, FS (fun a => a = r) ℓ0 ℓ0 d21 d23 := fun ℓ0 => ⟨fun x _ => ⟨K23 x, rfl⟩, fun x _ hx => by rw [e23]; exact Kp_wI hx⟩
  have k23r : yK d23 r = 6 := by rw [K23]; exact k21r
  have U23 : yU d23 = yU d21 := by rw [e23]; rfl
  refine ⟨by omega, fun b25 hb25 d26 e26 => ⟨by rw [e26, yK_wN, if_neg (fun q => by rw [← q, k23r] at hb25; omega)]; exact k23r, fun d28 e28 => ?_⟩⟩
  obtain ⟨S28, F28, U28, P28, -⟩ := slot_new (c := d23) (d := d28) (r := r) (J := fun i => i = 5 ∨ i = 4 ∨ i = 3 ∨ i = 2 ∨ False) (j := 7) (fun i hi => by
    obtain ⟨a, a1, a2, a3⟩ := S21 i hi
    exact ⟨a, by rw [P23]; exact a1, by rw [K23]; exact a2, a3⟩) hb25 (by omega) (by rw [e28, e26]; rfl)
  have k28r : yK d28 r = 6 := by rw [(F28.1 r (by omega)).1]; exact k23r
  refine ⟨k28r, fun d30 e30 => ?_⟩
  have K30 : ∀ x, yK d30 x = yK d28 x := fun x => by rw [e30]; rfl
  have F30 : ∀ ℓ0 : LB, FS (fun a => a = r) ℓ0 ℓ0 d28 d30 := fun ℓ0 => ⟨fun x _ => ⟨K30 x, rfl⟩, fun x _ hx => by rw [e30]; exact Kp_wP hx⟩
  have U30 : yU d30 = yU d28 := by rw [e30]; rfl
  have P30 : ∀ i : Int, ¬ i = 0 → yP d30 r i = yP d28 r i := fun i hi => by rw [e30, yP_wP, if_neg (fun q => hi q.2)]
  have Fall := F4.trans (F6.trans (F11.trans (F16.trans (F21.trans ((F23 _).trans (F28.trans (F30 _)))))))
  have l3p' : ¬ yK d3 p = 0 := by rw [(F3.1 p hpK).1]; exact hpK
  refine h d30 _ ⟨⟨by rw [K30]; exact k28r, by rw [(Fall.1 r (by omega)).2]; exact l3r⟩, ⟨p, ?_, by rw [(Fall.1 p l3p').2]; exact l3p, P3.fs Fall (by rw [l3r]; exact rp) rp⟩, fun j hj => ?_⟩ (F3'.trans Fall) (by omega)
  · rw [P30 1 (by decide), P28 1 (by decide), P23, P21 1 (by decide), P16 1 (by decide), P11 1 (by decide), P6 1 (by decide)]; exact p4
  · obtain ⟨a, a1, a2, a3⟩ := S28 j (by unfold jT at hj; omega)
    exact ⟨a, by rw [P30 j (by unfold jT at hj; omega)]; exact a1, by rw [K30]; exact a2, a3⟩
/-- what a row is told -/
theorem t39 (hD : DOK D) (hE : EI c ℓ Es D) (hn : n < dN D) (hI : RoI c ℓ r) (hU : yU c + 13 ≤ B) (h : ∀ d ℓ', RoI d ℓ' r → RoV d ℓ' Es D r n → FS (OR ℓ r) ℓ ℓ' c d → yU d ≤ yU c → Q (Sum.inl none) d) : CW g B O 39 0 [some (.ref r), some (.ref (Es.getD n 0))] [] c Q := by
  have hI' := hI
  obtain ⟨⟨rK, rl⟩, ⟨p, p1, p2, p3⟩, sl⟩ := hI
  obtain ⟨a3, s31, s32, s33⟩ := sl 3 (Or.inr (Or.inl rfl))
  obtain ⟨a4, s41, s42, s43⟩ := sl 4 (Or.inr (Or.inr (Or.inl rfl)))
  have pK := p3.1
  have eK := (hE.2 n hn).1.1
  have rp : ¬ r = p := kne rK pK (by decide)
  have ht := val_ok hD n 0
  refine c39_0 ⟨rK, fun d1 e1 => ?_⟩
  have K1 : ∀ x, yK d1 x = yK c x := fun x => by rw [e1]; rfl
  have kp1 : ∀ x, ¬ x = r → Kp c d1 x := fun x hx => by rw [e1]; exact Kp_wP hx
  have F1 : FS (fun a => a = r) ℓ ℓ c d1 := ⟨fun x _ => ⟨K1 x, rfl⟩, fun x _ hx => kp1 x hx⟩
  have P1 : ∀ i : Int, ¬ i = 0 → yP d1 r i = yP c r i := fun i hi => by rw [e1, yP_wP, if_neg (fun q => hi q.2)]
  have P10 : yP d1 r 0 = some (Es.getD n 0) := by rw [e1, yP_wP, if_pos ⟨rfl, rfl⟩]
  have U1 : yU d1 = yU c := by rw [e1]; rfl
  have E1 : EI d1 ℓ Es D := hE.keep (fun _ _ => rfl) (fun x _ hx => kp1 x (fun q => by rw [q, rl] at hx; have hx : yK c r = 2 := hx.1; omega))
  have ps1 : PsI d1 ℓ p := p3.fs F1 (by rw [rl]; exact rp) rp
  refine ⟨by rw [K1]; exact rK, p, by rw [P1 1 (by decide)]; exact p1, by rw [K1]; exact eK, t3 (f := 0) hD E1 hn (by decide) (fun s s1 s2 s3 => c39_14 ⟨ps1.1, ?_⟩)⟩
  refine t20 (src := s) (t := val D n 0) ps1 s1 s2 (fun q => by rw [q] at s3; have := ps1.1; have := s3.1; omega) ht.1 (by omega) (fun d2 ℓ2 ps2 pv2 q2 F2 U2 => ?_)
  -- what the reading left
  have nSP : ∀ x, ¬ yK c x = 0 → (ℓ x).1 = r → ¬ x = p → ¬ SP ℓ p x := fun x _ hx hxp q => by
    rcases q with q | q
    · exact hxp q
    · rw [hx] at q; exact rp q
  have kr := F2.2 r (by rw [K1]; omega) (nSP r (by omega) (by rw [rl]) rp)
  have k3 := F2.2 a3 (by rw [K1]; omega) (nSP a3 (by omega) (by rw [s33]) (kne s32 pK (by decide)))
  have k4 := F2.2 a4 (by rw [K1]; omega) (nSP a4 (by omega) (by rw [s43]) (kne s42 pK (by decide)))
  have r2 : yK d2 r = 6 := by rw [kr.1, K1]; exact rK
  have a3K : yK d2 a3 = 7 := by rw [k3.1, K1]; exact s32
  have a4K : yK d2 a4 = 7 := by rw [k4.1, K1]; exact s42
  have P2 : ∀ i : Int, ¬ i = 0 → yP d2 r i = yP c r i := fun i hi => by rw [kr.2.2.1, P1 i hi]
  have n34 : ¬ a3 = a4 := lne s33 s43 (by simp)
  have hl2 : ∀ x, ¬ yK c x = 0 → ℓ2 x = ℓ x ∧ yK d2 x = yK c x := fun x hx => by
    obtain ⟨q1, q2⟩ := F2.1 x (by rw [K1]; exact hx)
    exact ⟨q2, by rw [q1, K1]⟩
  have sK : ¬ yK c s = 0 := by rw [← K1]; omega
  have soK : ¬ yK c (ℓ s).1 = 0 := by rw [← K1, s3.1]; decide
  have sn3 : ¬ s = a3 := fun q => by rw [q, s33] at s3; have s3 : yK d1 r = 2 := s3.1; rw [K1] at s3; omega
  have sn4 : ¬ s = a4 := fun q => by rw [q, s43] at s3; have s3 : yK d1 r = 2 := s3.1; rw [K1] at s3; omega
  have pv : ∀ z3 z4, PV (wT (wT d2 a3 z3) a4 z4) p (val D n 0) := fun z3 z4 => (pv2.out (fun q => by rw [q2] at q; cases q; exact sn3 rfl)).out (fun q => by have q : yP d2 p 0 = some a4 := q; rw [q2] at q; cases q; exact sn4 rfl)
  have ns3 : ¬ yP d2 p 0 = some a3 := fun q => by rw [q2] at q; cases q; exact sn3 rfl
  have ns4 : ¬ yP d2 p 0 = some a4 := fun q => by rw [q2] at q; cases q; exact sn4 rfl
  -- the end
  have fin : Q (Sum.inl none) (wT (wT d2 a3 (famT (val D n 0))) a4 (iniT (val D n 0))) := by
    have kp : ∀ x, ¬ x = a3 → ¬ x = a4 → Kp d2 (wT (wT d2 a3 (famT (val D n 0))) a4 (iniT (val D n 0))) x := fun x h1 h2 => (Kp_wT h1).trans (Kp_wT h2)
    have np3 : ¬ (ℓ2 a3).1 = p := by rw [(hl2 a3 (by omega)).1, s33]; exact rp
    have np4 : ¬ (ℓ2 a4).1 = p := by rw [(hl2 a4 (by omega)).1, s43]; exact rp
    have psF : PsI (wT (wT d2 a3 (famT (val D n 0))) a4 (iniT (val D n 0))) ℓ2 p := ps2.keep (fun x _ => ⟨rfl, rfl⟩) (fun x _ hS => kp x (fun q => by
      rcases hS with s | s
      · exact kne a3K ps2.1 (by decide) (q ▸ s)
      · rw [q] at s; exact np3 s) (fun q => by
      rcases hS with s | s
      · exact kne a4K ps2.1 (by decide) (q ▸ s)
      · rw [q] at s; exact np4 s))
    refine h _ ℓ2 ⟨⟨r2, by rw [(hl2 r (by omega)).1]; exact rl⟩, ⟨p, ?_, by rw [(hl2 p (by omega)).1]; exact p2, psF⟩, fun j hj => ?_⟩ ⟨?_, ⟨p, ?_, pv _ _, s, q2, ?_, ?_⟩, ⟨a3, ?_, ?_⟩, a4, ?_, ?_⟩ ⟨fun x hx => ⟨(hl2 x hx).2, (hl2 x hx).1⟩, fun x hx hS => ?_⟩ (by show yU d2 ≤ yU c; omega)
    · show yP d2 r 1 = some p; rw [P2 1 (by decide)]; exact p1
    · obtain ⟨a, a1', a2', a3'⟩ := sl j hj
      refine ⟨a, ?_, ?_, by rw [(hl2 a (by omega)).1]; exact a3'⟩
      · show yP d2 r j = some a; rw [P2 j (by unfold jT at hj; omega)]; exact a1'
      · show yK d2 a = 7; rw [(hl2 a (by omega)).2]; exact a2'
    · show yP d2 r 0 = _; rw [kr.2.2.1]; exact P10
    · show yP d2 r 1 = some p; rw [P2 1 (by decide)]; exact p1
    · show yK d2 s = 7; rw [(hl2 s sK).2, ← K1]; exact s1
    · show EO d2 ℓ2 (ℓ2 s).1
      rw [(hl2 s sK).1]
      exact ⟨by rw [(hl2 _ soK).2, ← K1]; exact s3.1, by rw [(hl2 _ soK).1]; exact s3.2⟩
    · show yP d2 r 3 = some a3; rw [P2 3 (by decide)]; exact s31
    · rw [yT_wT_ne n34, yT_wT]
    · show yP d2 r 4 = some a4; rw [P2 4 (by decide)]; exact s41
    · rw [yT_wT]
    · have h1 : ¬ x = r := fun q => hS (Or.inl (by rw [q, rl]))
      have h2 : ¬ SP ℓ p x := fun q => hS (by
        rcases q with q | q
        · exact Or.inl (by rw [q, p2])
        · exact Or.inr (by rw [q, p2]))
      exact (kp1 x h1).trans ((F2.2 x (by rw [K1]; exact hx) h2).trans (kp x (fun q => hS (Or.inl (by rw [q, s33]))) (fun q => hS (Or.inl (by rw [q, s43])))))
  refine c39_17 ⟨r2, a3, by rw [P2 3 (by decide)]; exact s31, a3K, fun d4 e4 => ⟨by rw [e4]; exact r2, a4, by rw [e4]; show yP d2 r 4 = some a4; rw [P2 4 (by decide)]; exact s41, by rw [e4]; exact a4K, fun d8 e8 => ?_⟩⟩
  have e8' : d8 = wT (wT d2 a3 []) a4 [] := by rw [e8, e4]
  subst e8'
  have pv0 := pv [] []
  refine ⟨r2, p, by show yP d2 r 1 = some p; rw [P2 1 (by decide)]; exact p1, pv0.1.1, t19 pv0.1.1 ?_⟩
  have hnp := pv0.2.1
  rw [hnp]
  have hn40 := np40 ht.1
  have wf := (fa_K (val D n 0) 0).1
  have jf := jn_le (fa (val D n 0) 0)
  refine c39_38 ⟨fun q => c39_72 ?_, fun q => ⟨r2, p, by show yP d2 r 1 = some p; rw [P2 1 (by decide)]; exact p1, r2, a3, by show yP d2 r 3 = some a3; rw [P2 3 (by decide)]; exact s31, pv0.1.1, ?_⟩⟩
  · have z3 : famT (val D n 0) = [] := by unfold famT; rw [if_pos (by omega)]
    have z4 : iniT (val D n 0) = [] := by unfold iniT; rw [if_pos (by omega)]
    rw [z3, z4] at fin
    exact fin
  · have z3 : famT (val D n 0) = fj (fa (val D n 0) 0) := by unfold famT; rw [if_neg (by omega)]
    have z4 : iniT (val D n 0) = inits (gv (val D n 0) 0) := by unfold iniT; rw [if_neg (by omega)]
    rw [z3, z4] at fin
    have y3 : yT (wT (wT d2 a3 []) a4 []) a3 = [] := by rw [yT_wT_ne n34, yT_wT]
    refine t32 (i := 0) pv0 (by omega) ht.1 a3K ns3 (by rw [y3]; show 0 + 81 ≤ 1024; omega) ?_
    rw [y3, List.nil_append, wT_comm (fun q => n34 q.symm), wT_wT]
    have e3 : wT (wT d2 a3 (jn (fa (val D n 0) 0))) a4 [] = wT (wT d2 a3 (jn (fa (val D n 0) 0))) a4 [] := rfl
    have ya : yT (wT (wT d2 a3 (jn (fa (val D n 0) 0))) a4 []) a3 = jn (fa (val D n 0) 0) := by rw [yT_wT_ne n34, yT_wT]
    refine c39_53 ⟨r2, a3, by show yP d2 r 3 = some a3; rw [P2 3 (by decide)]; exact s31, a3K, fun x hx => ?_, fun d5 e5 => ?_⟩
    · rw [ya] at hx
      have := (fa_K (val D n 0) 0).ok ht.2 x hx
      unfold okc at this
      omega
    · rw [ya, wT_comm (fun q => n34 q.symm), wT_wT] at e5
      subst e5
      have pv5 := pv ((jn (fa (val D n 0) 0)).map fo) []
      refine ⟨r2, p, by show yP d2 r 1 = some p; rw [P2 1 (by decide)]; exact p1, r2, a4, by show yP d2 r 4 = some a4; rw [P2 4 (by decide)]; exact s41, pv5.1.1, t33 (i := 0) pv5 (by omega) ht.1 a4K ns4 (by rw [yT_wT]; show 0 + 130 ≤ 1024; omega) ?_⟩
      rw [yT_wT, List.nil_append, wT_wT]
      exact c39_72 fin
end CNew2
