/-! THE CLASS'S CALLS -/
def rzV (ex : List Nat) (z : RZ) : Rs := if z.1 = 0 then Sum.inl none else Sum.inr (ex.getD (z.1.toNat - 1) 0)
def rzI (ex : List Nat) (z : RZ) : Rs := if z.1 = 0 then Sum.inl (some (.int (iI z.2.1))) else Sum.inr (ex.getD (z.1.toNat - 1) 0)
theorem EnI.cong {c : CS} {ℓ : LB} {Es : List Nat} {D D' : Db} {n e : Nat} (h : EnI c ℓ Es D n e) (h1 : dK D' n = dK D n) (h2 : dX D' n = dX D n) (h3 : dY D' n = dY D n) (h4 : ∀ f, dF D' n f = dF D n f) : EnI c ℓ Es D' n e := by
  obtain ⟨a, b, fs, c1, c2, c3, c4, c5⟩ := h
  refine ⟨by rw [h1, h2]; exact a, by rw [h3]; exact b, fs, c1, c2, c3, c4, fun f hf => ?_⟩
  obtain ⟨ft, d1, d2, d3, d4⟩ := c5 f hf
  exact ⟨ft, d1, d2, d3, by rw [h4]; exact d4⟩
section CCall
variable {g : Nat → Nat} {B U : Nat} {O : Nat → Prop} {c d : CS} {Q : Rs → CS → Prop} {ℓ ℓ' : LB} {Es Rs : List Nat} {s : ST} {x : Nat} {A : Nat → Nat}
theorem XI.u (h : XI U c ℓ x A Es Rs s) (hB : U + 2000000 ≤ B) : yU c + 70000 ≤ B ∧ Es.length = dN (qD s) ∧ dN (qD s) ≤ 24 ∧ Rs.length ≤ 24 := by
  have h1 := h.2.2.2
  have h2 := h.2.1.1
  have h3 := h.1.1.1
  have h4 := h.2.2.1.2.1.2.2.2.2.1
  refine ⟨?_, h2, h3, h4⟩
  omega
theorem XI.e (h : XI U c ℓ x A Es Rs s) : XE U c x A s := ⟨ℓ, Es, Rs, h⟩
theorem t81 {e : Int} (h : XI U c ℓ x A Es Rs s) (hB : U + 2000000 ≤ B) (he : -2147483648 ≤ e ∧ e ≤ 2147483647) (h1 : isE s e → Q (Sum.inl (some (.ref (Es.getD e.toNat 0)))) c) (h2 : ¬ isE s e → Q (Sum.inr 0) c) : CW g B O 81 0 [some (.ref x), some (.int (iI e))] [] c Q := by
  obtain ⟨u1, u2, u3, u4⟩ := h.u hB
  obtain ⟨-, hE, ⟨⟨⟨a1, a2⟩, ⟨b0, -⟩, ⟨c1, c2⟩, -⟩, -, -, h4, -⟩, -⟩ := h
  have ex : ¬ isE s e → ∀ {l0 l1 : Option Value}, CW g B O 81 15 [l0, l1] [] c Q := fun q l0 l1 => c81_15 ⟨by omega, h2 q⟩
  refine c81_0 ⟨fun q => ex (fun z => by have := z.1; omega), fun q => ⟨a1, A 0, b0, c1, fun r => ⟨a1, A 0, b0, c1, ⟨q, r⟩, _, rfl, ?_⟩, fun r => ex (fun z => by have := z.2; rw [h4] at r; omega)⟩⟩
  rw [h4] at r ⊢
  have hn : e.toNat < dN (qD s) := by omega
  exact ⟨(hE.2 _ hn).1.1, h1 ⟨q, by omega⟩⟩
theorem t83 {n : Nat} (h : XI U c ℓ x A Es Rs s) (hn : n < dN (qD s)) (hQ : Q (Sum.inl (some (.ref (Es.getD (real (qD s) n) 0)))) c) : CW g B O 83 0 [some (.ref x), some (.ref (Es.getD n 0)), none] [] c Q := by
  obtain ⟨hS, hE, ⟨⟨⟨a1, a2⟩, ⟨b0, -⟩, ⟨c1, c2⟩, -⟩, -, -, h4, -⟩, -⟩ := h
  have hd := hS.1.1
  have hl := hE.1
  obtain ⟨⟨e1, -, e3, -⟩, ⟨ky, k1, k2, -, k4⟩, -⟩ := hE.2 n hn
  have loop : ∀ (m k : Nat), k + m = n → real (qD s) n = rls (qD s) n m k → CW g B O 83 14 [some (.ref x), some (.ref (Es.getD n 0)), some (.int (iI k))] [] c Q := by
    intro m
    induction m with
    | zero =>
      intro k q1 q2
      have q2 : real (qD s) n = n := q2
      rw [q2] at hQ
      exact c83_14 ⟨e1, fun _ => c83_75 hQ, fun q => by omega⟩ (hx2 := by omega)
    | succ m ih =>
      intro k q1 q2
      have hk : k < dN (qD s) := by omega
      obtain ⟨⟨f1, -⟩, ⟨ky', l1, l2, -, l4⟩, -⟩ := hE.2 k hk
      have hg : (yE c (A 0)).getD ((k : Nat) : Int).toNat 0 = Es.getD k 0 := by rw [h4, Int.toNat_natCast]
      have q2 : real (qD s) n = if dY (qD s) k = dY (qD s) n then k else rls (qD s) n m (k + 1) := q2
      refine c83_14 ⟨e1, fun q => by omega, fun _ => ⟨a1, A 0, b0, c1, fun q => by rw [h4] at q; omega, fun _ => ⟨a1, A 0, b0, c1, by rw [h4]; omega, Es.getD k 0, hg, f1, f1, ky', l1, e1, ky, k1, l2, k2, fun q => ⟨a1, A 0, b0, c1, by rw [h4]; omega, Es.getD k 0, hg, f1, ?_⟩, fun q => ⟨by omega, ih (k + 1) (by omega) ?_⟩⟩⟩⟩ (hx2 := by omega)
      · rw [l4, k4] at q
        rw [if_pos q] at q2
        rw [q2] at hQ
        exact hQ
      · rw [l4, k4] at q
        rw [if_neg q] at q2
        exact q2
  refine c83_0 ⟨e1, ky, k1, k2, fun q => ?_, fun q => loop n 0 (by omega) ?_⟩
  · rw [k4] at q
    have : real (qD s) n = n := if_pos q
    rw [this] at hQ
    exact hQ
  · rw [k4] at q
    exact if_neg q
theorem k68 {e n : Int} (h : XI U c ℓ x A Es Rs s) (hB : U + 2000000 ≤ B) (he : -2147483648 ≤ e ∧ e ≤ 2147483647) (hn : -2147483648 ≤ n ∧ n ≤ 2147483647) (hQ : ∀ d, XE U d x A (x1 s e n).2.2 → Q (rzV [0, 2, 3] (x1 s e n)) d) : CW g B O 68 0 [some (.ref x), some (.int (iI e)), some (.int (iI n))] [] c Q := by
  obtain ⟨u1, u2, u3, u4⟩ := h.u hB
  have hS := SK1 (e := e) (c := n) h.1
  have hX := h.2.2.1.1.1.1
  unfold x1 at hQ hS
  refine c68_0 ⟨hX, t81 h hB he (fun z => ?_) (fun z => ⟨rfl, ?_⟩)⟩
  · rw [if_neg (fun q => q z)] at hQ hS
    have hz : e.toNat < dN (qD s) := by omega
    have hY := (h.1.1.2.2.1 e.toNat).1
    obtain ⟨⟨e1, e2, e3, e4, e5⟩, ⟨ky, k1, k2, k3, k4⟩, hfs⟩ := h.2.1.2 _ hz
    refine c68_5 ⟨e1, ky, k1, t86 (lim := 16) k2 (by rw [k4]; exact hY) (by decide) hn (by omega) (fun q => ⟨rfl, ?_⟩) (fun q r => ⟨rfl, ?_⟩) (fun q r => c68_14 ?_)⟩
    · rw [if_pos q] at hQ
      exact hQ c h.e
    · rw [k4] at r
      rw [if_neg (by rw [q]; decide), if_pos r] at hQ
      exact hQ c h.e
    · rw [k4] at r ⊢
      rw [if_neg (by rw [q]; decide), if_neg (by omega)] at hQ hS
      have hne : ∀ y, ¬ (ℓ y).1 = Es.getD e.toNat 0 → Kp c (wT c ky (dY (qD s) e.toNat ++ chK n 4)) y := fun y hy => Kp_wT (fun q => hy (by rw [q, k3]))
      refine hQ _ ⟨ℓ, Es, Rs, hS, ⟨u2, fun m hm => ?_⟩, XR.keep (s := s) h.2.2.1 (fun _ _ => ⟨rfl, rfl⟩) (fun a ha q => hne a (fun z => q (by rw [z]; exact ⟨e1, e2⟩))), h.2.2.2⟩
      have hm : m < dN (qD s) := hm
      by_cases w : m = e.toNat
      · rw [w]
        refine ⟨⟨e1, e2, e3, e4, e5⟩, ⟨ky, k1, k2, k3, ?_⟩, ?_⟩
        · rw [yT_wT]
          exact (if_pos rfl).symm
        · obtain ⟨fs, c1, c2, c3, c4, c5⟩ := hfs
          refine ⟨fs, c1, c2, c3, c4, fun f hf => ?_⟩
          obtain ⟨ft, d1, d2, d3, d4⟩ := c5 f hf
          exact ⟨ft, d1, d2, d3, by rw [yT_wT_ne (lne d3 k3 (by simp; omega))]; exact d4⟩
      · refine EnI.cong ((h.2.1.2 m hm).keep (fun _ _ => rfl) (fun a ha q => hne a (fun z => w (h.2.1.inj hm hz (q.symm.trans z))))) rfl rfl (if_neg w) (fun _ => rfl)
  · rw [if_pos z] at hQ
    exact hQ c h.e
theorem t1' {D : Db} {n f : Nat} (hE : EI c ℓ Es D) (hn : n < dN D) (hf : f < 8) (h : ∀ a fs, yK c a = 7 → yT c a = dF D n f → ℓ a = (Es.getD n 0, 10 + f) → yP c (Es.getD n 0) 3 = some fs → yP c fs f = some a → Q (Sum.inl (some (.ref a))) c) : CW g B O 1 0 [some (.ref (Es.getD n 0)), some (.int (iI f))] [] c Q := by
  obtain ⟨⟨a1, -⟩, -, fs, c1, c2, c3, c4, c5⟩ := hE.2 n hn
  obtain ⟨ft, d1, d2, d3, d4⟩ := c5 f hf
  have e : (f : Int) % 8 = f := by omega
  refine c1_0 ⟨a1, fs, c1, c2, by omega, ft, ?_, h ft fs d2 d4 d3 c1 d1⟩
  rw [e]; exact d1
theorem k69 {e f n : Int} (h : XI U c ℓ x A Es Rs s) (hB : U + 2000000 ≤ B) (he : -2147483648 ≤ e ∧ e ≤ 2147483647) (hf : -2147483648 ≤ f ∧ f ≤ 2147483647) (hn : -2147483648 ≤ n ∧ n ≤ 2147483647) (hQ : ∀ d, XE U d x A (x2 s e f n).2.2 → Q (rzV [0, 1, 2, 3] (x2 s e f n)) d) : CW g B O 69 0 [some (.ref x), some (.int (iI e)), some (.int (iI f)), some (.int (iI n)), none] [] c Q := by
  obtain ⟨u1, u2, u3, u4⟩ := h.u hB
  have hS := SK2 (e := e) (f := f) (c := n) h.1
  have hX := h.2.2.1.1.1.1
  unfold x2 at hQ hS
  refine c69_0 ⟨hX, t81 h hB he (fun z => ?_) (fun z => ⟨rfl, ?_⟩)⟩
  · rw [if_neg (fun q => q z)] at hQ hS
    have hz : e.toNat < dN (qD s) := by omega
    obtain ⟨⟨e1, e2, e3, e4, e5⟩, ⟨ky, k1, k2, k3, k4⟩, hfs⟩ := h.2.1.2 _ hz
    have ex : (f < 0 ∨ 7 < f) → ∀ {l0 l1 l2 l3 l4 : Option Value}, CW g B O 69 17 [l0, l1, l2, l3, l4] [] c Q := fun q l0 l1 l2 l3 l4 => by
      rw [if_pos q] at hQ
      exact c69_17 ⟨by omega, hQ c h.e⟩
    refine c69_5 ⟨fun q => ex (Or.inl q), fun q => ⟨fun r => ⟨e1, ?_⟩, fun r => ex (Or.inr (by omega))⟩⟩
    obtain ⟨j, rfl⟩ : ∃ j : Nat, f = j := ⟨f.toNat, by omega⟩
    rw [if_neg (by omega)] at hQ hS
    rw [Int.toNat_natCast] at hQ hS
    have hF := (h.1.1.2.2.2.1 e.toNat j).1
    refine t1' h.2.1 hz (by omega) (fun a fs0 a1 a2 a3 a4 a5 => c69_33 (t86 (lim := 80) a1 (by rw [a2]; exact hF) (by decide) hn (by omega) (fun q => ⟨rfl, ?_⟩) (fun q r => ⟨rfl, ?_⟩) (fun q r => c69_39 ?_)))
    · rw [if_pos q] at hQ
      exact hQ c h.e
    · rw [a2] at r
      rw [if_neg (by rw [q]; decide), if_pos r] at hQ
      exact hQ c h.e
    · rw [a2] at r ⊢
      rw [if_neg (by rw [q]; decide), if_neg (by omega)] at hQ hS
      have hne : ∀ y, ¬ (ℓ y).1 = Es.getD e.toNat 0 → Kp c (wT c a (dF (qD s) e.toNat j ++ chK n 4)) y := fun y hy => Kp_wT (fun q => hy (by rw [q, a3]))
      refine hQ _ ⟨ℓ, Es, Rs, hS, ⟨u2, fun m hm => ?_⟩, XR.keep (s := s) h.2.2.1 (fun _ _ => ⟨rfl, rfl⟩) (fun a ha q => hne a (fun z => q (by rw [z]; exact ⟨e1, e2⟩))), h.2.2.2⟩
      have hm : m < dN (qD s) := hm
      by_cases w : m = e.toNat
      · rw [w]
        refine ⟨⟨e1, e2, e3, e4, e5⟩, ⟨ky, k1, k2, k3, ?_⟩, ?_⟩
        · rw [yT_wT_ne (lne k3 a3 (by simp; omega))]
          exact k4
        · obtain ⟨fs, c1, c2, c3, c4, c5⟩ := hfs
          refine ⟨fs, c1, c2, c3, c4, fun f hf => ?_⟩
          obtain ⟨ft, d1, d2, d3, d4⟩ := c5 f hf
          refine ⟨ft, d1, d2, d3, ?_⟩
          show _ = if e.toNat = e.toNat ∧ f = j then dF (qD s) e.toNat j ++ chK n 4 else dF (qD s) e.toNat f
          by_cases v : f = j
          · subst v
            have hft : ft = a := by
              rw [a4] at c1
              cases c1
              rw [a5] at d1
              cases d1
              rfl
            rw [if_pos ⟨rfl, rfl⟩, hft, yT_wT]
          · rw [if_neg (fun z => v z.2), yT_wT_ne (lne d3 a3 (by simp; omega))]
            exact d4
      · refine EnI.cong ((h.2.1.2 m hm).keep (fun _ _ => rfl) (fun a ha q => hne a (fun z => w (h.2.1.inj hm hz (q.symm.trans z))))) rfl rfl rfl (fun f => if_neg (fun z => w z.1))
  · rw [if_pos z] at hQ
    exact hQ c h.e
theorem k70 {e : Int} (h : XI U c ℓ x A Es Rs s) (hB : U + 2000000 ≤ B) (he : -2147483648 ≤ e ∧ e ≤ 2147483647) (hQ : ∀ d, XE U d x A (x3 s e).2.2 → Q (rzI [0, 3] (x3 s e)) d) : CW g B O 70 0 [some (.ref x), some (.int (iI e)), none] [] c Q := by
  obtain ⟨u1, u2, u3, u4⟩ := h.u hB
  have hS := SK3 (e := e) h.1
  obtain ⟨-, hE, ⟨hA, hLs, hR, h4, ⟨Ci, i1, i2, i3, i4⟩, h6, h7⟩, hU⟩ := id h
  obtain ⟨⟨a1, a2⟩, ⟨b0, b1, -⟩, ⟨c1, c2⟩, ⟨d1, d2⟩, e1, ⟨f1, f2⟩, ⟨g1, g2⟩, -⟩ := id hA
  have hN := h.1.2.2.1
  unfold x3 at hQ hS
  refine c70_0 ⟨a1, t81 h hB he (fun z => ?_) (fun z => ⟨rfl, ?_⟩)⟩
  · rw [if_neg (fun q => q z)] at hQ hS
    have hz : e.toNat < dN (qD s) := by omega
    have ek := (hE.2 _ hz).1.1
    have hlen : (yE c (A 1)).length = qN s := by rw [i1, List.length_map, i2]
    refine c70_5 ⟨a1, A 1, b1, d1, fun q => ⟨a1, A 1, b1, d1, by rw [ek]; omega, by omega, fun d9 e9 => ?_⟩, fun q => ⟨by omega, ?_⟩⟩
    · rw [if_neg (by omega)] at hQ hS
      have hF : FS (SX ℓ x (A 2)) ℓ ℓ c d9 := ⟨fun _ _ => ⟨by rw [e9]; rfl, rfl⟩, fun y _ hy => by
        rw [e9]
        refine (Kp_wE (fun w => hy ⟨by rw [w, d2]; show (ℓ x).1 = x; rw [a2], ?_⟩)).trans Kp_wU
        rintro (v | v)
        · exact kne d1 hLs.1.1.1 (by decide) (w.symm.trans v)
        · rw [w, d2] at v
          exact kne a1 hLs.1.1.1 (by decide) v⟩
      have kS := SX_k a1 hLs.1.1 hF
      have K9 : yK d9 = yK c := by rw [e9]; rfl
      have P9 : yP d9 = yP c := by rw [e9]; rfl
      have T9 : yT d9 = yT c := by rw [e9]; rfl
      have I9 : yI d9 = yI c := by rw [e9]; rfl
      have E9 : yE d9 (A 1) = yE c (A 1) ++ [Es.getD e.toNat 0] := by rw [e9]; exact if_pos rfl
      have E0' : yE d9 (A 0) = Es := by
        rw [e9]
        show (if A 0 = A 1 then _ else yE c (A 0)) = Es
        rw [if_neg (lne c2 d2 (by simp))]
        exact h4
      have hp : PsI d9 ℓ (A 7) := g1.keep (fun a ha => ⟨rfl, by rw [K9]⟩) (fun a ha w => by
        rw [e9]
        refine (Kp_wE (fun v => ?_)).trans Kp_wU
        rcases w with w | w
        · exact kne d1 g1.1 (by decide) (v.symm.trans w)
        · rw [v, d2] at w
          exact kne a1 g1.1 (by decide) w)
      refine ⟨by rw [K9]; exact a1, A 1, by rw [P9]; exact b1, by rw [K9]; exact d1, ?_⟩
      have hl9 : (yE d9 (A 1)).length = qN s + 1 := by rw [E9, List.length_append, hlen]; rfl
      rw [hl9]
      have := hQ d9 ⟨ℓ, Es, Rs, hS, hE.sx a1 hF, ⟨hA.keep (fun a ha => ⟨rfl, by rw [K9]⟩) (by have := hLs.1.1.1; omega) (by rw [P9]) hp, hLs.keep (hlF hF) kS, hR.keep hLs kS, E0', ⟨Ci ++ [e.toNat], ?_, ?_, ?_, fun n hn => ?_⟩, by rw [I9]; exact h6, by rw [T9]; exact h7⟩, ?_⟩
      · exact this
      · rw [E9, i1, List.map_append]; rfl
      · rw [List.length_append, i2]; rfl
      · rw [List.foldl_append, i3]; rfl
      · rcases List.mem_append.mp hn with w | w
        · exact i4 n w
        · rw [List.mem_singleton.mp w]; omega
      · have : yU d9 = yU c - 100 := by rw [e9]; rfl
        omega
    · rw [if_pos (by omega)] at hQ
      exact hQ c h.e
  · rw [if_pos z] at hQ
    exact hQ c h.e
theorem k71 {e o : Int} (h : XI U c ℓ x A Es Rs s) (hB : U + 2000000 ≤ B) (he : -2147483648 ≤ e ∧ e ≤ 2147483647) (ho : -2147483648 ≤ o ∧ o ≤ 2147483647) (hQ : ∀ d, XE U d x A (x4 s e o).2.2 → Q (rzI [0] (x4 s e o)) d) : CW g B O 71 0 [some (.ref x), some (.int (iI e)), some (.int (iI o)), none, none] [] c Q := by
  obtain ⟨u1, u2, u3, u4⟩ := h.u hB
  have hS := SK4 (e := e) (o := o) h.1
  have hX := h.2.2.1.1.1.1
  unfold x4 at hQ hS
  refine c71_0 ⟨hX, t81 h hB he (fun z => c71_5 ⟨hX, t81 h hB ho (fun w => ?_) (fun w => ⟨rfl, ?_⟩)⟩) (fun z => ⟨rfl, ?_⟩)⟩
  · rw [if_neg (fun q => q ⟨z, w⟩)] at hQ hS
    have hz : e.toNat < dN (qD s) := by omega
    have hw : o.toNat < dN (qD s) := by omega
    obtain ⟨⟨e1, e2, e3, e4, e5⟩, hky, hfs⟩ := h.2.1.2 _ hz
    refine c71_11 ⟨(h.2.1.2 _ hw).1.1, t4 h.1.1 h.2.1 hw hz ?_⟩
    by_cases v : lds (dX (qD s)) 24 o.toNat e.toNat = true
    · rw [if_pos v] at hQ
      rw [if_pos v]
      exact c71_19 ⟨fun q => by omega, fun _ => hQ c h.e⟩
    · rw [if_neg v] at hQ hS
      rw [if_neg v]
      refine c71_19 ⟨fun _ => ⟨e1, fun d1 ed => ?_⟩, fun q => by omega⟩
      have hne : ∀ y, ¬ (ℓ y).1 = Es.getD e.toNat 0 → Kp c d1 y := fun y hy => by rw [ed]; exact Kp_wP (fun q => hy (by rw [q, e2]))
      have K1 : yK d1 = yK c := by rw [ed]; rfl
      refine hQ d1 ⟨ℓ, Es, Rs, hS, ⟨u2, fun m hm => ?_⟩, XR.keep (s := s) h.2.2.1 (fun a _ => ⟨rfl, by rw [K1]⟩) (fun a ha q => hne a (fun z => q (by rw [z]; exact ⟨e1, e2⟩))), by rw [ed]; exact h.2.2.2⟩
      have hm : m < dN (qD s) := hm
      by_cases u : m = e.toNat
      · rw [u]
        have P1 : ∀ i : Int, ¬ i = 4 → yP d1 (Es.getD e.toNat 0) i = yP c (Es.getD e.toNat 0) i := fun i hi => by rw [ed, yP_wP, if_neg (fun q => hi q.2)]
        obtain ⟨ky, k1, k2, k3, k4⟩ := hky
        obtain ⟨fs, c1, c2, c3, c4, c5⟩ := hfs
        refine ⟨⟨by rw [K1]; exact e1, e2, by rw [ed]; exact e3, by rw [ed]; exact e4, ?_⟩, ⟨ky, by rw [P1 2 (by decide)]; exact k1, by rw [K1]; exact k2, k3, by rw [ed]; exact k4⟩, fs, by rw [P1 3 (by decide)]; exact c1, by rw [K1]; exact c2, c3, by rw [ed]; exact c4, fun f hf => ?_⟩
        · rw [ed, yP_wP, if_pos ⟨rfl, rfl⟩]
          show _ = Option.map _ (if e.toNat = e.toNat then some o.toNat else _)
          rw [if_pos rfl]
          rfl
        · obtain ⟨ft, d1', d2, d3, d4⟩ := c5 f hf
          refine ⟨ft, ?_, by rw [K1]; exact d2, d3, by rw [ed]; exact d4⟩
          rw [ed, yP_wP, if_neg (fun q => kne e1 c2 (by decide) q.1.symm)]
          exact d1'
      · refine EnI.cong ((h.2.1.2 m hm).keep (fun _ _ => rfl) (fun a ha q => hne a (fun z => u (h.2.1.inj hm hz (q.symm.trans z))))) rfl (if_neg u) rfl (fun f => rfl)
  · rw [if_pos (fun q => w q.2)] at hQ
    exact hQ c h.e
  · rw [if_pos (fun q => z q.1)] at hQ
    exact hQ c h.e
theorem k72 {a b : Int} (h : XI U c ℓ x A Es Rs s) (hB : U + 2000000 ≤ B) (ha : -2147483648 ≤ a ∧ a ≤ 2147483647) (hb : -2147483648 ≤ b ∧ b ≤ 2147483647) (hQ : ∀ d, XE U d x A (x5 s a b).2.2 → Q (rzI [2] (x5 s a b)) d) : CW g B O 72 0 [some (.ref x), some (.int (iI a)), some (.int (iI b)), none] [] c Q := by
  obtain ⟨u1, u2, u3, u4⟩ := h.u hB
  have hS := SK5 (a := a) (b := b) h.1
  obtain ⟨-, hE, ⟨hA, hLs, hR, h4, hCi, h6, h7⟩, hU⟩ := id h
  obtain ⟨⟨a1, a2⟩, ⟨b0, b1, -⟩, ⟨c1, c2⟩, ⟨d1, d2⟩, e1, ⟨f1, f2⟩, ⟨g1, g2⟩, -⟩ := id hA
  have s1 := h.1.2.2.2.1
  have s2 := h.1.2.2.2.2.1
  unfold x5 at hQ hS
  have ex : (a < 0 ∨ 2 < a ∨ b < 0 ∨ 2 < b) → ∀ {l0 l1 l2 l3 : Option Value}, CW g B O 72 18 [l0, l1, l2, l3] [] c Q := fun q l0 l1 l2 l3 => by
    rw [if_pos q] at hQ
    exact c72_18 ⟨by omega, hQ c h.e⟩
  refine c72_0 ⟨fun q => ex (by omega), fun q => ⟨fun r => ex (by omega), fun r => ⟨fun w => ex (by omega), fun w => ⟨fun v => ⟨a1, by omega, a1, by omega, a1, fun d5 e5 => ⟨by rw [e5]; exact a1, fun d7 e7 => ?_⟩⟩, fun v => ex (by omega)⟩⟩⟩⟩
  rw [if_neg (by omega)] at hQ hS
  rw [h6.1, h6.2]
  have K7 : yK d7 = yK c := by rw [e7, e5]; rfl
  have P7 : yP d7 = yP c := by rw [e7, e5]; rfl
  have T7 : yT d7 = yT c := by rw [e7, e5]; rfl
  have E7 : yE d7 = yE c := by rw [e7, e5]; rfl
  have kp : ∀ y, ¬ y = x → Kp c d7 y := fun y hy => by rw [e7, e5]; exact (Kp_wI hy).trans (Kp_wI hy)
  have hF : FS (SX ℓ x (A 2)) ℓ ℓ c d7 := ⟨fun _ _ => ⟨by rw [K7], rfl⟩, fun y _ hy => kp y (fun w => hy ⟨by rw [w, a2, a2], by
    rintro (v | v)
    · exact kne a1 hLs.1.1.1 (by decide) (w.symm.trans v)
    · rw [w, a2] at v
      exact kne a1 hLs.1.1.1 (by decide) v⟩)⟩
  have kS := SX_k a1 hLs.1.1 hF
  have hp : PsI d7 ℓ (A 7) := g1.keep (fun a ha => ⟨rfl, by rw [K7]⟩) (fun y ha w => kp y (fun v => by
    rcases w with w | w
    · exact kne a1 g1.1 (by decide) (v.symm.trans w)
    · rw [v, a2] at w
      exact kne a1 g1.1 (by decide) w))
  refine hQ d7 ⟨ℓ, Es, Rs, hS, hE.sx a1 hF, ⟨hA.keep (fun a ha => ⟨rfl, by rw [K7]⟩) (by have := hLs.1.1.1; omega) (by rw [P7]) hp, hLs.keep (hlF hF) kS, hR.keep hLs kS, by rw [E7]; exact h4, by rw [E7]; exact hCi, ⟨?_, ?_⟩, by rw [T7]; exact h7⟩, by rw [e7, e5]; exact hU⟩
  · rw [e7, yI_wI, if_neg (fun q => by have := q.2; omega), e5, yI_wI, if_pos ⟨rfl, rfl⟩]
    rfl
  · rw [e7, yI_wI, if_pos ⟨rfl, rfl⟩]
    rfl
theorem t82 {i : Int} (h : XI U c ℓ x A Es Rs s) (hB : U + 2000000 ≤ B) (hi : -2147483648 ≤ i ∧ i ≤ 2147483647) (h1 : 0 ≤ i ∧ i < (oR (qR s)).length → Q (Sum.inl (some (.ref (Rs.getD i.toNat 0)))) c) (h2 : ¬ (0 ≤ i ∧ i < (oR (qR s)).length) → Q (Sum.inr 1) c) : CW g B O 82 0 [some (.ref x), some (.int (iI i))] [] c Q := by
  obtain ⟨u1, u2, u3, u4⟩ := h.u hB
  obtain ⟨-, hE, ⟨hA, hLs, hR, -⟩, hU⟩ := id h
  obtain ⟨⟨a1, a2⟩, ⟨b0, b1, b4, -⟩, -⟩ := id hA
  have lk := hLs.1.1.1
  have ex : ¬ (0 ≤ i ∧ i < (oR (qR s)).length) → ∀ {l0 l1 : Option Value}, CW g B O 82 15 [l0, l1] [] c Q := fun q l0 l1 => c82_15 ⟨by omega, h2 q⟩
  have r1 := hR.1
  have r2 := hR.2.1
  refine c82_0 ⟨fun q => ex (by omega), fun q => ⟨a1, A 2, b4, lk, t6 (L := oR (qR s)) lk r1 (by omega) ?_⟩⟩
  refine c82_12 ⟨fun r => ⟨a1, A 2, b4, lk, ?_⟩, fun r => ex (by omega)⟩
  obtain ⟨j, rfl⟩ : ∃ j : Nat, i = j := ⟨i.toNat, by omega⟩
  have := h1 ⟨q, r⟩
  rw [Int.toNat_natCast] at this
  exact t7 hLs (by omega) (c82_33 this)
theorem k74 {i : Int} (h : XI U c ℓ x A Es Rs s) (hB : U + 2000000 ≤ B) (hi : -2147483648 ≤ i ∧ i ≤ 2147483647) (hQ : ∀ d, XE U d x A (x7 s i).2.2 → Q (rzI [1] (x7 s i)) d) : CW g B O 74 0 [some (.ref x), some (.int (iI i))] [] c Q := by
  unfold x7 at hQ
  have hX := h.2.2.1.1.1.1
  refine c74_0 ⟨hX, t82 h hB hi (fun q => ?_) (fun q => ⟨rfl, ?_⟩)⟩
  · rw [if_pos q] at hQ
    obtain ⟨-, hE, ⟨hA, hLs, hR, -⟩, hU⟩ := id h
    obtain ⟨q1, q2, q3, q4⟩ := hR.2.2.1 i.toNat (by omega)
    have hl := hE.1
    have en := (hE.2 _ (by omega : (oR (qR s)).getD i.toNat 0 < dN (qD s))).1
    have hr2 := hR.2.1
    refine c74_5 ⟨(hLs.2.2.2.2.2.2 i.toNat (by omega)).1.1, _, q1, en.1, ?_⟩
    rw [en.2.2.1]
    exact hQ c h.e
  · rw [if_neg q] at hQ
    exact hQ c h.e
theorem k75 {i : Int} (h : XI U c ℓ x A Es Rs s) (hB : U + 2000000 ≤ B) (hi : -2147483648 ≤ i ∧ i ≤ 2147483647) (hQ : ∀ d, XE U d x A (x8 s i).2.2 → Q (rzI [1] (x8 s i)) d) : CW g B O 75 0 [some (.ref x), some (.int (iI i))] [] c Q := by
  unfold x8 at hQ
  have hX := h.2.2.1.1.1.1
  refine c75_0 ⟨hX, t82 h hB hi (fun q => ?_) (fun q => ⟨rfl, ?_⟩)⟩
  · rw [if_pos q] at hQ
    obtain ⟨-, hE, ⟨hA, hLs, hR, -⟩, hU⟩ := id h
    obtain ⟨q1, q2, q3, q4⟩ := hR.2.2.1 i.toNat (by omega)
    have hr2 := hR.2.1
    refine c75_5 ⟨(hLs.2.2.2.2.2.2 i.toNat (by omega)).1.1, ?_⟩
    rw [q3]
    exact hQ c h.e
  · rw [if_neg q] at hQ
    exact hQ c h.e
theorem k77 {i w : Int} (h : XI U c ℓ x A Es Rs s) (hB : U + 2000000 ≤ B) (hi : -2147483648 ≤ i ∧ i ≤ 2147483647) (hw : -2147483648 ≤ w ∧ w ≤ 2147483647) (hQ : ∀ d, XE U d x A (x10 s i w).2.2 → Q (rzI [1] (x10 s i w)) d) : CW g B O 77 0 [some (.ref x), some (.int (iI i)), some (.int (iI w))] [] c Q := by
  obtain ⟨u1, u2, u3, u4⟩ := h.u hB
  unfold x10 at hQ
  obtain ⟨-, hE, ⟨hA, hLs, hR, -⟩, hU⟩ := id h
  obtain ⟨⟨a1, a2⟩, ⟨b0, b1, b4, -⟩, -⟩ := id hA
  obtain ⟨⟨l1, l2, l3, l4⟩, -, ⟨m1, m2, m3⟩, ⟨n1, n2, n3⟩, -⟩ := id hLs
  have lk := l1.1
  obtain ⟨k5, k6⟩ := hR.2.2.2.1
  have h96 := h.1.2.2.2.2.2.1.2.2.2.2.2.2.1
  have hm8 := h.1.2.2.2.2.2.1.2.2.2.2.2.2.2.1
  have ex : ¬ i = -1 → (i < 0 ∨ (oM (qR s)).length ≤ i ∨ w < 0 ∨ 1 < w) → ∀ {l0 l1 l2 : Option Value}, CW g B O 77 37 [l0, l1, l2] [] c Q := fun q0 q l0 l1 l2 => by
    rw [if_neg q0, if_pos q] at hQ
    exact c77_37 ⟨by omega, hQ c h.e⟩
  refine c77_0 ⟨fun q => ⟨fun r => ex q (by omega), fun r => ⟨a1, A 2, b4, lk, fun v => ex q (by omega), fun v => ⟨fun t => ex q (by omega), fun t => ⟨fun y => ?_, fun y => ex q (by omega)⟩⟩⟩⟩, fun q => ?_⟩
  · rw [if_neg q, if_neg (by omega)] at hQ
    obtain ⟨j, rfl⟩ : ∃ j : Nat, i = j := ⟨i.toNat, by omega⟩
    obtain ⟨z1, z2⟩ := k6 j (by omega)
    rw [Int.toNat_natCast] at hQ
    have hmm := hm8 _ (mem_gD (d := (0, 0)) (show j < (oM (qR s)).length by omega))
    refine ⟨fun y0 => ⟨a1, A 2, b4, lk, A 5, l4, n1, by rw [n3]; omega, ?_⟩, fun y0 => ⟨a1, A 2, b4, lk, A 4, l3, m1, by rw [m3]; omega, ?_⟩⟩
    · rw [if_neg y0] at hQ
      rw [z2]
      exact c77_72 (hQ c h.e) (hu0 := by omega)
    · rw [if_pos y0] at hQ
      rw [z1]
      exact c77_72 (hQ c h.e) (hu0 := by omega)
  · rw [if_pos q] at hQ
    refine ⟨a1, A 2, b4, lk, ?_⟩
    rw [k5]
    exact hQ c h.e
theorem k79 {i : Int} (h : XI U c ℓ x A Es Rs s) (hB : U + 2000000 ≤ B) (hi : -2147483648 ≤ i ∧ i ≤ 2147483647) (hQ : ∀ d, XE U d x A (x12 s i).2.2 → Q (rzI [1] (x12 s i)) d) : CW g B O 79 0 [some (.ref x), some (.int (iI i))] [] c Q := by
  obtain ⟨u1, u2, u3, u4⟩ := h.u hB
  unfold x12 at hQ
  obtain ⟨-, hE, ⟨hA, -, -, -, -, -, h7⟩, hU⟩ := id h
  obtain ⟨⟨a1, a2⟩, ⟨b0, b1, b4, b5, -⟩, -, -, -, ⟨f1, f2⟩, -⟩ := id hA
  refine c79_0 ⟨a1, A 6, b5, cq_R fun hR => t85 f1 hi (by omega) (fun q => ?_) (fun q => ⟨rfl, ?_⟩)⟩
  · have hsg := (hR.2.1 (A 6) f1).2 i
    have e : sg (yT c (A 6)) i = (yT c (A 6)).getD i.toNat 0 := by
      obtain ⟨j, rfl⟩ : ∃ j : Nat, i = j := ⟨i.toNat, by omega⟩
      rw [sg_nat, Int.toNat_natCast]
    rw [e] at hsg
    rw [h7] at q hsg ⊢
    rw [if_pos q] at hQ
    exact c79_8 (hQ c h.e) (hu0 := by omega)
  · rw [h7] at q
    rw [if_neg q] at hQ
    exact hQ c h.e
theorem tw_at {D : Db} {k : Nat} (hk : k < dN D) (hr : ¬ real D k = k) : ((List.range k).filter (fun e => decide (¬ real D e = e))).length < (tw D).length ∧ (tw D).getD ((List.range k).filter (fun e => decide (¬ real D e = e))).length 0 = k := by
  obtain ⟨m, hm⟩ : ∃ m, dN D = (k + 1) + m := ⟨dN D - (k + 1), by omega⟩
  have e : tw D = ((List.range k).filter (fun e => decide (¬ real D e = e)) ++ [k]) ++ ((List.range m).map (k + 1 + ·)).filter (fun e => decide (¬ real D e = e)) := by
    unfold tw
    rw [hm, List.range_add, List.filter_append, List.range_succ, List.filter_append]
    congr 2
    exact List.filter_cons_of_pos (decide_eq_true hr)
  rw [e]
  refine ⟨by simp only [List.length_append, List.length_cons, List.length_nil]; omega, ?_⟩
  rw [gA_lt (by simp only [List.length_append, List.length_cons, List.length_nil]; omega), gA_ge (Nat.le_refl _), Nat.sub_self]
  rfl
theorem k80 {i : Int} (h : XI U c ℓ x A Es Rs s) (hB : U + 2000000 ≤ B) (hi : -2147483648 ≤ i ∧ i ≤ 2147483647) (hQ : ∀ d, XE U d x A (x13 s i).2.2 → Q (rzI [1] (x13 s i)) d) : CW g B O 80 0 [some (.ref x), some (.int (iI i)), none, none, none] [] c Q := by
  obtain ⟨u1, u2, u3, u4⟩ := h.u hB
  unfold x13 at hQ
  obtain ⟨-, hE, ⟨hA, -, -, h4, -⟩, hU⟩ := id h
  obtain ⟨⟨a1, a2⟩, ⟨b0, -⟩, ⟨c1, c2⟩, -⟩ := id hA
  have loop : ∀ (m k : Nat) {l4 : Option Value}, dN (qD s) - k = m → k ≤ dN (qD s) → ((List.range k).filter (fun e => decide (¬ real (qD s) e = e))).length ≤ k → (0 ≤ i → (((List.range k).filter (fun e => decide (¬ real (qD s) e = e))).length : Int) ≤ i) → CW g B O 80 4 [some (.ref x), some (.int (iI i)), some (.int (iI ((List.range k).filter (fun e => decide (¬ real (qD s) e = e))).length)), some (.int (iI k)), l4] [] c Q := by
    intro m
    induction m with
    | zero =>
      intro k l4 m1 m2 m3 m4
      have hk : k = dN (qD s) := by omega
      have ht : (List.range k).filter (fun e => decide (¬ real (qD s) e = e)) = tw (qD s) := by rw [hk]; rfl
      rw [ht] at m3 m4 ⊢
      refine c80_4 ⟨a1, A 0, b0, c1, fun _ => ⟨fun q => ?_, fun q => ⟨by omega, ?_⟩⟩, fun q => by rw [h4] at q; omega⟩ (hx2 := by omega) (hx3 := by omega)
      · rw [if_pos q] at hQ
        exact hQ c h.e
      · rw [if_neg q, if_neg (fun z => by have := m4 z.1; omega)] at hQ
        exact hQ c h.e
    | succ m ih =>
      intro k l4 m1 m2 m3 m4
      have hk : k < dN (qD s) := by omega
      have en := (hE.2 k hk).1
      have hrl := real_le (qD s) k
      have hstep : (List.range (k + 1)).filter (fun e => decide (¬ real (qD s) e = e)) = (List.range k).filter (fun e => decide (¬ real (qD s) e = e)) ++ if real (qD s) k = k then [] else [k] := by
        rw [List.range_succ, List.filter_append]
        congr 1
        by_cases q : real (qD s) k = k
        · rw [if_pos q]
          exact List.filter_cons_of_neg (by rw [decide_eq_true_iff]; exact fun z => z q)
        · rw [if_neg q]
          exact List.filter_cons_of_pos (decide_eq_true q)
      refine c80_4 ⟨a1, A 0, b0, c1, fun q => by rw [h4] at q; omega, fun _ => ⟨a1, A 0, b0, c1, by rw [h4]; omega, Es.getD k 0, by rw [h4, Int.toNat_natCast], en.1, a1, t83 h hk ?_⟩⟩ (hx2 := by omega) (hx3 := by omega)
      refine c80_34 ⟨fun q => ?_, fun q => ⟨fun r => ⟨by omega, ?_⟩, fun r => ?_⟩⟩ (hx2 := by omega) (hx3 := by omega)
      · have hr := hE.inj (by omega) hk q
        rw [if_pos hr, List.append_nil] at hstep
        refine c80_49 ⟨by omega, ?_⟩ (hx2 := by omega) (hx3 := by omega)
        have := ih (k + 1) (l4 := some (.ref (Es.getD k 0))) (by omega) (by omega) (by rw [hstep]; omega) (by rw [hstep]; exact m4)
        rw [hstep] at this
        exact this
      · have hr : ¬ real (qD s) k = k := fun z => q (by rw [z])
        rw [if_neg hr] at hstep
        have hsl : ((List.range (k + 1)).filter (fun e => decide (¬ real (qD s) e = e))).length = ((List.range k).filter (fun e => decide (¬ real (qD s) e = e))).length + 1 := by rw [hstep, List.length_append]; rfl
        refine c80_49 ⟨by omega, ?_⟩ (hx2 := by omega) (hx3 := by omega)
        have := ih (k + 1) (l4 := some (.ref (Es.getD k 0))) (by omega) (by omega) (by rw [hsl]; omega) (fun z => by rw [hsl]; have := m4 z; omega)
        rw [hsl] at this
        exact this
      · have hr : ¬ real (qD s) k = k := fun z => q (by rw [z])
        obtain ⟨w1, w2⟩ := tw_at hk hr
        rw [if_neg (by omega), if_pos (by omega)] at hQ
        have hti : i.toNat = ((List.range k).filter (fun e => decide (¬ real (qD s) e = e))).length := by omega
        rw [hti, w2] at hQ
        exact hQ c h.e
  exact c80_0 (loop _ 0 rfl (Nat.zero_le _) (Nat.le_refl _) (fun z => z)) (hx1 := by omega)
end CCall
