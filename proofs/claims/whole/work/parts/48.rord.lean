/-! ORDERS OF THE REFERENCE -/
def fj (ws : List (List Int)) : List Int := (jn ws).map fo
theorem One.z {v w : VS} (e : w = uv v 21 0 0) : One w [] ∧ FrO v w := by
  refine ⟨⟨by rw [e, uv_eq]; rfl, fun i hi => absurd hi (Nat.not_lt_zero _)⟩, fun j _ h2 => by rw [e, uv_j h2]⟩
theorem Oth.fr {v w : VS} {l : List Int} (h : Oth v l) (hf : FrO v w) : Oth w l := by
  unfold Oth
  rw [hf 23 (by decide) (by decide), hf 22 (by decide) (by decide)]
  exact h
theorem FrT.db {v w : VS} {D : Db} (h : RDb v D) (hf : FrT v w) : RDb w D := h.fr (fun j _ _ => hf j (by omega))
theorem FrB.db {v w : VS} {D : Db} {b : Int} (h : RDb v D) (hf : FrB b v w) : RDb w D := h.fr (fun j _ _ => hf.1 j (by omega))
/-- the other side stays -/
theorem WdR.frB {v w : VS} {b b' : Int} {T : List TWd} (h : WdR v b T) (hf : FrB b' v w) (hn : ¬ b = b') (hb' : b' = 0 ∨ b' = 1) : WdR w b T := by
  obtain ⟨h0, h1, h2, h3⟩ := h
  refine ⟨h0, by rw [(hf.2.2.2 b hn).1]; exact h1, h2, fun i hi => ?_⟩
  obtain ⟨q1, q2, q3, q4⟩ := h3 i hi
  have e : ∀ j, 15 ≤ j → j ≤ 18 → w j (64 * b + i) = v j (64 * b + i) := fun j j1 j2 => hf.2.2.1 j j1 j2 _ (by omega)
  rw [e 17 (by decide) (by decide), e 18 (by decide) (by decide), e 15 (by decide) (by decide), e 16 (by decide) (by decide)]
  refine ⟨q1, q2, fun k hk => ?_, q4⟩
  rw [hf.2.1 _ (by omega)]
  exact q3 k hk
/-- nothing but reading, one, other -/
def FrC (v w : VS) : Prop := ∀ j, (j < 13 ∨ 23 < j) → w j = v j
theorem FrC.rfl {v : VS} : FrC v v := fun _ _ => by rfl
theorem FrC.trans {v w u : VS} (h : FrC v w) (h' : FrC w u) : FrC v u := fun j h1 => (h' j h1).trans (h j h1)
theorem FrT.c {v w : VS} (h : FrT v w) : FrC v w := fun j hj => h j (by omega)
theorem FrO.c {v w : VS} (h : FrO v w) : FrC v w := h.t.c
theorem FrB.c {b : Int} {v w : VS} (h : FrB b v w) : FrC v w := fun j hj => h.1 j (by omega)
theorem FrC.db {v w : VS} {D : Db} (h : RDb v D) (hf : FrC v w) : RDb w D := h.fr (fun j _ _ => hf j (by omega))
theorem okc32 {x : Int} (h : okc x) : okc x ∨ x = 32 ∨ x = 46 := Or.inl h
section ROrd
variable {g : Nat → Nat} {C S m : Nat} {A : Nat → Nat} {v : VS} {Q : Rs → VS → Prop} {D : Db} {t t' : List Int}
theorem fj_R {t t' : List Int} {a b : List (List Int)} (k : wdK t a) (k' : wdK t' b) (ht : t.length ≤ 80 ∧ ∀ x, x ∈ t → okc x) (ht' : t'.length ≤ 80 ∧ ∀ x, x ∈ t' → okc x) : -70000 ≤ cmpL (fj a) (fj b) ∧ cmpL (fj a) (fj b) ≤ 70000 := by
  have l1 := k.len
  have l1' := k'.len
  have hr : ∀ {l : List Int}, (∀ x, x ∈ l → okc x) → ∀ i, 0 ≤ sg (l.map fo) i ∧ sg (l.map fo) i ≤ 65535 := fun {l} hl i => by
    by_cases q : 0 ≤ i ∧ i < (l.map fo).length
    · rw [sg_in q]
      obtain ⟨y, hy, e⟩ := List.mem_map.mp (getD_mem (l := l.map fo) (i := i.toNat) (by omega))
      have := fo_ok (hl y hy)
      rw [← e]
      omega
    · rw [sg_out (by omega)]; omega
  exact cmpL_R (by unfold fj; rw [List.length_map]; omega) (by unfold fj; rw [List.length_map]; omega) (hr (k.ok ht.2)) (hr (k'.ok ht'.2))
/-- comparing persons -/
def thn (a b : Int) : Int := if a = 0 then b else a
def opk (t t' : List Int) (p : Nat) : Int := thn (thn (cmpL (fj (fa t p)) (fj (fa t' p))) (cmpL (fj (gv t p)) (fj (gv t' p)))) (cmpL (fj (pa t p)) (fj (pa t' p)))
def ops (t t' : List Int) : Nat → Nat → Int
  | 0, _ => (np t : Int) - np t'
  | n + 1, p => if np t ≤ p ∨ np t' ≤ p then (np t : Int) - np t' else thn (opk t t' p) (ops t t' n (p + 1))
def opp (t t' : List Int) : Int := ops t t' 41 0
def cfl (D : Db) (f e e' : Nat) : Int := cmpL ((val D e f).map fo) ((val D e' f).map fo)
def ord (D : Db) (s : Int) (e e' : Nat) : Int := if s = 1 then thn (thn (opp (val D e 0) (val D e' 0)) (cfl D 2 e e')) (cfl D 1 e e') else thn (thn (cfl D 2 e e') (opp (val D e 0) (val D e' 0))) (cfl D 1 e e')
theorem np40 {t : List Int} (ht : t.length ≤ 80) : np t ≤ 40 := by
  have h1 := np_le t
  have h2 := (ppl_len t).1
  omega
def alB (D : Db) (e f : Nat) : Bool := decide (¬ f = e ∧ 0 < np (val D e 0) ∧ 0 < np (val D f 0) ∧ fj (fa (val D e 0) 0) = fj (fa (val D f 0) 0) ∧ ¬ inits (gv (val D e 0) 0) = inits (gv (val D f 0) 0))
def alk (D : Db) (L : List Nat) (e : Nat) : Bool := L.any (alB D e)
/-- the rows of the reference -/
def Rws (v : VS) (L : List Nat) : Prop := v 25 0 = L.length ∧ L.length ≤ 24 ∧ ∀ i : Nat, i < L.length → v 26 i = L.getD i 0
theorem Rws.fr {v w : VS} {L : List Nat} (h : Rws v L) (hf : FrC v w) : Rws w L := by
  unfold Rws
  rw [hf 25 (by omega), hf 26 (by omega)]
  exact h
theorem inits_ok {t : List Int} {ws : List (List Int)} (k : wdK t ws) (ht : ∀ x, x ∈ t → okc x) : ∀ x, x ∈ inits ws → okc x ∨ x = 32 ∨ x = 46 := fun x hx => by
  rcases jn_mem hx with q | ⟨w, hw, q⟩
  · exact Or.inr (Or.inl q)
  · obtain ⟨y, hy, e⟩ := List.mem_map.mp hw
    rw [← e] at q
    rcases List.mem_cons.mp q with r | r
    · obtain ⟨h1, h2⟩ := k.2 y hy
      refine Or.inl (ht x (h2 x ?_))
      rw [r]
      exact getD_mem (l := y) (i := 0) (List.length_pos_iff.mpr h1)
    · exact Or.inr (Or.inr (List.mem_singleton.mp r))
theorem inits_len {ws : List (List Int)} : (inits ws).length ≤ 3 * ws.length := by
  have := jn_le (ws.map ini)
  rw [wl_ini] at this
  exact this
/-- two parts -/
theorem s121 {p q : Nat} (h0 : WdR v 0 (tgs t)) (h1 : WdR v 1 (tgs t')) (hp : p ≤ 100) (hq : q = 0 ∨ q = 1 ∨ q = 2) (k : wdK t (sel (tgs t) p q)) (k' : wdK t' (sel (tgs t') p q)) (ht : t.length ≤ 80 ∧ ∀ x, x ∈ t → okc x) (ht' : t'.length ≤ 80 ∧ ∀ x, x ∈ t' → okc x)
    (h : ∀ w, FrT v w → Q (Sum.inl (some (.int (iI (cmpL (fj (sel (tgs t) p q)) (fj (sel (tgs t') p q))))))) w) : RW g C S m A 121 0 [some (.ref m), some (.int (iI p)), some (.int (iI q))] [] v Q := by
  have l1 := k.len
  have l1' := k'.len
  have w1 := k.1
  have w1' := k'.1
  refine v121_0 (fun w1 e1 => ?_)
  obtain ⟨o1, f1⟩ := One.z e1
  refine s115 (h0.fr f1) (by omega) (by omega) (by decide) o1 (by show 0 + _ ≤ _; omega) (fun w2 o2 f2 => v121_15 ?_)
  rw [List.nil_append, List.take_of_length_le (by show _ ≤ 1000; omega)] at o2
  refine s119 o2 (by omega) (fun w3 t3 o3 f3 => v121_19 ?_)
  have hf3 : FrT v w3 := (f1.trans f2).t.trans f3
  refine s115 (h1.frT hf3) (by omega) (by omega) (by decide) o3 (by show 0 + _ ≤ _; omega) (fun w4 o4 f4 => v121_29 ?_)
  rw [List.nil_append, List.take_of_length_le (by show _ ≤ 1000; omega)] at o4
  refine s120 (b := 1) (Or.inr rfl) o4 (t3.fr f4) (by omega) (fun x hx => Or.inl (k'.ok ht'.2 x hx)) (fun x hx => Or.inl (k.ok ht.2 x hx)) (v121_34 (h w4 (hf3.trans f4.t)) (hu0 := ?_))
  have : -70000 ≤ cmpL (fol 1 (jn (sel (tgs t) p q))) (fol 1 (jn (sel (tgs t') p q))) ∧ cmpL (fol 1 (jn (sel (tgs t) p q))) (fol 1 (jn (sel (tgs t') p q))) ≤ 70000 := fj_R k k' ht ht'
  omega
/-- all persons of two entries -/
theorem s122 {e f : Nat} (hD : DOK D) (hv : RDb v D) (he : e < dN D) (hf : f < dN D) (h : ∀ w, FrC v w → Q (Sum.inl (some (.int (iI (opp (val D e 0) (val D f 0)))))) w) : RW g C S m A 122 0 [some (.ref m), some (.int (iI e)), some (.int (iI f)), none, none] [] v Q := by
  have hd := hD.1
  refine v122_0 (s110 hD hv he (Or.inl rfl) (fun w1 t1 n1 f1 => v122_6 (s110 hD (f1.db hv) hf (Or.inr rfl) (fun w2 t2 n2 f2 => v122_12 ?_))))
  have t1' := t1.frB f2 (by decide) (Or.inr rfl)
  have n1' : w2 19 0 = np (val D e 0) := by rw [(f2.2.2.2 0 (by decide)).2]; exact n1
  have hf2 : FrC v w2 := f1.c.trans f2.c
  have ht := val_ok hD e 0
  have ht' := val_ok hD f 0
  have hn := np40 ht.1
  have hn' := np40 ht'.1
  unfold opp at h
  generalize val D e 0 = t at *
  generalize val D f 0 = t' at *
  have key : ∀ (n p : Nat) (u : VS) {l1 l2 l4 : Option Value}, p + n = 41 → FrT w2 u → (∀ w, FrC v w → Q (Sum.inl (some (.int (iI (ops t t' n p))))) w) → RW g C S m A 122 14 [some (.ref m), l1, l2, some (.int (iI p)), l4] [] u Q := by
    intro n
    induction n with
    | zero =>
      intro p u l1 l2 l4 e1 hu hQ
      have m1 : u 19 0 = np t := by rw [hu 19 (by decide)]; exact n1'
      have m2 : u 19 1 = np t' := by rw [hu 19 (by decide)]; exact n2
      have hq := hQ u (hf2.trans hu.c)
      have hz : ops t t' 0 p = u 19 0 - u 19 1 := by rw [m1, m2]; rfl
      rw [hz] at hq
      exact v122_14 ⟨by decide, fun _ => v122_92 ⟨by decide, by decide, by omega, hq⟩, fun q => by omega⟩
    | succ n ih =>
      intro p u l1 l2 l4 e1 hu hQ
      have m1 : u 19 0 = np t := by rw [hu 19 (by decide)]; exact n1'
      have m2 : u 19 1 = np t' := by rw [hu 19 (by decide)]; exact n2
      have hq := hQ u (hf2.trans hu.c)
      obtain ⟨x0, x1, x2⟩ := tgs_sel t p
      obtain ⟨y0, y1, y2⟩ := tgs_sel t' p
      unfold ops at hQ hq
      refine v122_14 ⟨by decide, fun q => ?_, fun q => ⟨by decide, fun q' => ?_, fun q' => ?_⟩⟩
      · rw [if_pos (Or.inl (by omega)), ← m1, ← m2] at hq
        exact v122_92 ⟨by decide, by decide, by omega, hq⟩
      · rw [if_pos (Or.inr (by omega)), ← m1, ← m2] at hq
        exact v122_92 ⟨by decide, by decide, by omega, hq⟩
      · rw [if_neg (by omega)] at hQ
        unfold opk at hQ
        have r1 := fj_R (fa_K t p) (fa_K t' p) ht ht'
        have r2 := fj_R (gv_K t p) (gv_K t' p) ht ht'
        have r3 := fj_R (pa_K t p) (pa_K t' p) ht ht'
        have last : ∀ (u : VS) (d : Int) {l1 l2 l4 : Option Value}, FrT w2 u → (-70000 ≤ d ∧ d ≤ 70000) → (∀ w, FrC v w → Q (Sum.inl (some (.int (iI (thn d (ops t t' n (p + 1))))))) w) → RW g C S m A 122 76 [some (.ref m), l1, l2, some (.int (iI p)), l4] [.int (iI d)] u Q := fun u d l1 l2 l4 hu hd hq => by
          refine v122_76 ⟨fun q => ⟨by omega, ih (p + 1) u (by omega) hu (fun w hw => ?_)⟩, fun q => ?_⟩
          · have := hq w hw
            unfold thn at this
            rw [if_pos q] at this
            exact this
          · have := hq u (hf2.trans hu.c)
            unfold thn at this
            rw [if_neg q] at this
            exact this
        have mid : ∀ (u : VS) (d : Int) {l1 l2 l4 : Option Value}, FrT w2 u → (-70000 ≤ d ∧ d ≤ 70000) → (∀ w, FrC v w → Q (Sum.inl (some (.int (iI (thn (thn d (cmpL (fj (pa t p)) (fj (pa t' p)))) (ops t t' n (p + 1))))))) w) → RW g C S m A 122 58 [some (.ref m), l1, l2, some (.int (iI p)), l4] [.int (iI d)] u Q := fun u d l1 l2 l4 hu hd hq => by
          refine v122_58 ⟨fun q => ?_, fun q => last u d hu hd (fun w hw => ?_)⟩
          · refine s121 (p := p) (q := 1) (t1'.frT hu) (t2.frT hu) (by omega) (Or.inr (Or.inl rfl)) (by have := pa_K t p; rw [← x1] at this; exact this) (by have := pa_K t' p; rw [← y1] at this; exact this) ht ht' (fun w hw => ?_)
            have ee : cmpL (fj (sel (tgs t) p ((1 : Nat) : Int))) (fj (sel (tgs t') p ((1 : Nat) : Int))) = cmpL (fj (pa t p)) (fj (pa t' p)) := by
              have x1 : sel (tgs t) p ((1 : Nat) : Int) = _ := x1
              have y1 : sel (tgs t') p ((1 : Nat) : Int) = _ := y1
              rw [x1, y1]
            rw [ee]
            refine last w _ (hu.trans hw) r3 (fun w' hw' => ?_)
            have := hq w' hw'
            have e2 : thn d (cmpL (fj (pa t p)) (fj (pa t' p))) = cmpL (fj (pa t p)) (fj (pa t' p)) := by unfold thn; rw [if_pos q]
            rw [e2] at this
            exact this
          · have := hq w hw
            have e2 : thn d (cmpL (fj (pa t p)) (fj (pa t' p))) = d := by unfold thn; rw [if_neg q]
            rw [e2] at this
            exact this
        refine s121 (p := p) (q := 2) (t1'.frT hu) (t2.frT hu) (by omega) (Or.inr (Or.inr rfl)) (by have := fa_K t p; rw [← x2] at this; exact this) (by have := fa_K t' p; rw [← y2] at this; exact this) ht ht' (fun w hw => ?_)
        have ee : cmpL (fj (sel (tgs t) p ((2 : Nat) : Int))) (fj (sel (tgs t') p ((2 : Nat) : Int))) = cmpL (fj (fa t p)) (fj (fa t' p)) := by
          have x2 : sel (tgs t) p ((2 : Nat) : Int) = _ := x2
          have y2 : sel (tgs t') p ((2 : Nat) : Int) = _ := y2
          rw [x2, y2]
        rw [ee]
        refine v122_40 ⟨fun q => ?_, fun q => mid w _ (hu.trans hw) r1 (fun w' hw' => ?_)⟩ (hu0 := by omega)
        · refine s121 (p := p) (q := 0) (t1'.frT (hu.trans hw)) (t2.frT (hu.trans hw)) (by omega) (Or.inl rfl) (by have := gv_K t p; rw [← x0] at this; exact this) (by have := gv_K t' p; rw [← y0] at this; exact this) ht ht' (fun w2 hw2 => ?_)
          have ee : cmpL (fj (sel (tgs t) p ((0 : Nat) : Int))) (fj (sel (tgs t') p ((0 : Nat) : Int))) = cmpL (fj (gv t p)) (fj (gv t' p)) := by
            have x0 : sel (tgs t) p ((0 : Nat) : Int) = _ := x0
            have y0 : sel (tgs t') p ((0 : Nat) : Int) = _ := y0
            rw [x0, y0]
          rw [ee]
          refine mid w2 _ ((hu.trans hw).trans hw2) r2 (fun w' hw' => ?_)
          have := hQ w' hw'
          have e2 : thn (cmpL (fj (fa t p)) (fj (fa t' p))) (cmpL (fj (gv t p)) (fj (gv t' p))) = cmpL (fj (gv t p)) (fj (gv t' p)) := by unfold thn; rw [if_pos q]
          rw [e2] at this
          exact this
        · have := hQ w' hw'
          have e2 : thn (cmpL (fj (fa t p)) (fj (fa t' p))) (cmpL (fj (gv t p)) (fj (gv t' p))) = cmpL (fj (fa t p)) (fj (fa t' p)) := by unfold thn; rw [if_neg q]
          rw [e2] at this
          exact this
  exact key 41 0 w2 rfl FrT.rfl h
theorem cfl_R (hD : DOK D) (n e f : Nat) : -70000 ≤ cfl D n e f ∧ cfl D n e f ≤ 70000 := by
  have k1 := val_ok hD e n
  have k2 := val_ok hD f n
  have hr : ∀ {l : List Int}, (∀ x, x ∈ l → okc x) → ∀ i, 0 ≤ sg (l.map fo) i ∧ sg (l.map fo) i ≤ 65535 := fun {l} hl i => by
    by_cases q : 0 ≤ i ∧ i < (l.map fo).length
    · rw [sg_in q]
      obtain ⟨y, hy, e⟩ := List.mem_map.mp (getD_mem (l := l.map fo) (i := i.toNat) (by omega))
      have := fo_ok (hl y hy)
      rw [← e]
      omega
    · rw [sg_out (by omega)]; omega
  exact cmpL_R (by rw [List.length_map]; omega) (by rw [List.length_map]; omega) (hr k1.2) (hr k2.2)
theorem ops_R {t t' : List Int} (ht : t.length ≤ 80 ∧ ∀ x, x ∈ t → okc x) (ht' : t'.length ≤ 80 ∧ ∀ x, x ∈ t' → okc x) : ∀ n p, -70000 ≤ ops t t' n p ∧ ops t t' n p ≤ 70000
  | 0, p => by
    have := np40 ht.1
    have := np40 ht'.1
    show _ ≤ (np t : Int) - np t' ∧ (np t : Int) - np t' ≤ _
    omega
  | n + 1, p => by
    have := np40 ht.1
    have := np40 ht'.1
    have r1 := fj_R (fa_K t p) (fa_K t' p) ht ht'
    have r2 := fj_R (gv_K t p) (gv_K t' p) ht ht'
    have r3 := fj_R (pa_K t p) (pa_K t' p) ht ht'
    have ih := ops_R ht ht' n (p + 1)
    unfold ops
    split
    · omega
    · unfold opk thn
      (repeat' split) <;> omega
theorem s123 {e f n : Nat} (hD : DOK D) (hv : RDb v D) (he : e < dN D) (hf : f < dN D) (hn : n < 8) (h : ∀ w, FrT v w → Q (Sum.inl (some (.int (iI (cfl D n e f))))) w) : RW g C S m A 123 0 [some (.ref m), some (.int (iI e)), some (.int (iI f)), some (.int (iI n))] [] v Q := by
  have hd := hD.1
  have k1 := val_ok hD e n
  have k2 := val_ok hD f n
  have hR := cfl_R hD n e f
  refine v123_0 (fun w1 e1 => ?_)
  obtain ⟨o1, f1⟩ := One.z e1
  refine s103 hD (f1.t.db hv) he hn (fun r hr => v123_12 ?_ (hu0 := by have := hr.s; omega))
  refine s113 hr.s o1 (by show 0 + _ ≤ _; omega) (fun w2 o2 f2 => v123_15 ?_)
  rw [List.nil_append] at o2
  refine s119 o2 (by omega) (fun w3 t3 o3 f3 => v123_19 ?_)
  have hf3 : FrT v w3 := (f1.trans f2).t.trans f3
  refine s103 hD (hf3.db hv) hf hn (fun r hr => v123_26 ?_ (hu0 := by have := hr.s; omega))
  refine s113 hr.s o3 (by show 0 + _ ≤ _; omega) (fun w4 o4 f4 => v123_29 ?_)
  rw [List.nil_append] at o4
  exact s120 (b := 1) (Or.inr rfl) o4 (t3.fr f4) (by omega) (fun x hx => Or.inl (k2.2 x hx)) (fun x hx => Or.inl (k1.2 x hx)) (v123_34 (h w4 (hf3.trans f4.t)) (hu0 := by have hR : -70000 ≤ cmpL (fol 1 (val D e n)) (fol 1 (val D f n)) ∧ cmpL (fol 1 (val D e n)) (fol 1 (val D f n)) ≤ 70000 := hR; omega))
theorem s124 {e f : Nat} {s : Int} (hD : DOK D) (hv : RDb v D) (he : e < dN D) (hf : f < dN D) (hs : v 11 0 = s) (h : ∀ w, FrC v w → Q (Sum.inl (some (.int (iI (ord D s e f))))) w) : RW g C S m A 124 0 [some (.ref m), some (.int (iI e)), some (.int (iI f)), none] [] v Q := by
  have hd := hD.1
  have r1 := cfl_R hD 1 e f
  have r2 := cfl_R hD 2 e f
  have r0 : -70000 ≤ opp (val D e 0) (val D f 0) ∧ opp (val D e 0) (val D f 0) ≤ 70000 := ops_R (val_ok hD e 0) (val_ok hD f 0) 41 0
  unfold ord at h
  have last : ∀ (u : VS) (d : Int) {l3 : Option Value}, FrC v u → (-70000 ≤ d ∧ d ≤ 70000) → (∀ w, FrC v w → Q (Sum.inl (some (.int (iI (thn d (cfl D 1 e f)))))) w) → RW g C S m A 124 57 [some (.ref m), some (.int (iI e)), some (.int (iI f)), l3] [.int (iI d)] u Q := fun u d l3 hu hdr hq => by
    refine v124_57 ⟨fun q => ?_, fun q => v124_73 ?_⟩
    · refine s123 (n := 1) hD (hu.db hv) he hf (by decide) (fun w hw => v124_73 ?_ (hu0 := by omega))
      have := hq w (hu.trans hw.c)
      unfold thn at this
      rw [if_pos q] at this
      exact this
    · have := hq u hu
      unfold thn at this
      rw [if_neg q] at this
      exact this
  have c1 : ∀ a b : Int, a = 0 → thn a b = b := fun a b q => by unfold thn; rw [if_pos q]
  have c2 : ∀ a b : Int, ¬ a = 0 → thn a b = a := fun a b q => by unfold thn; rw [if_neg q]
  refine v124_0 ⟨fun q => ?_, fun q => ?_⟩
  · rw [hs] at q
    rw [if_neg q] at h
    refine s123 (n := 2) hD hv he hf (by decide) (fun w hw => ?_)
    have hs' : w 11 0 = s := by rw [hw 11 (by omega)]; exact hs
    refine v124_24 ⟨fun r => ⟨fun _ => ?_, fun r2 => by rw [hs'] at r2; exact absurd r2 q⟩, fun r => last w _ hw.c r2 (fun w' hw' => by have := h w' hw'; rw [c2 _ _ r] at this; exact this)⟩ (hu0 := by omega)
    refine s122 hD (hw.db hv) he hf (fun w2 hw2 => last w2 _ (hw.c.trans hw2) r0 (fun w' hw' => ?_))
    have := h w' hw'
    rw [c1 _ (opp _ _) r] at this
    exact this
  · rw [hs] at q
    rw [if_pos q] at h
    refine s122 hD hv he hf (fun w hw => v124_14 ?_ (hu0 := by omega))
    have hs' : w 11 0 = s := by rw [hw 11 (by omega)]; exact hs
    refine v124_24 ⟨fun r => ⟨fun r2 => by rw [hs'] at r2; exact absurd q r2, fun _ => ?_⟩, fun r => last w _ hw r0 (fun w' hw' => by have := h w' hw'; rw [c2 _ _ r] at this; exact this)⟩ (hu0 := by omega)
    refine s123 (n := 2) hD (hw.db hv) he hf (by decide) (fun w2 hw2 => v124_48 (last w2 _ (hw.trans hw2.c) r2 (fun w' hw' => ?_)) (hu0 := by omega))
    have := h w' hw'
    rw [c1 _ (cfl _ _ _ _) r] at this
    exact this
theorem any_snoc {α : Type} (p : α → Bool) (l : List α) (x : α) : (l ++ [x]).any p = (l.any p || p x) := by
  rw [List.any_append]
  simp
/-- another row has the family and other initials -/
theorem s126 {e : Nat} {L : List Nat} (hD : DOK D) (hv : RDb v D) (he : e < dN D) (hL : Rws v L) (hLn : ∀ x, x ∈ L → x < dN D) (h : ∀ w, FrC v w → Q (Sum.inl (some (.int (iI (if alk D L e = true then 1 else 0))))) w) : RW g C S m A 126 0 [some (.ref m), some (.int (iI e)), none, none] [] v Q := by
  have hd := hD.1
  refine v126_0 ?_
  have key : ∀ (n k : Nat) (u : VS) (x2 : Int), L.length - k = n → k ≤ L.length → FrC v u → x2 = (if alk D (L.take k) e = true then 1 else 0) → RW g C S m A 126 4 [some (.ref m), some (.int (iI e)), some (.int (iI x2)), some (.int (iI k))] [] u Q := by
    intro n
    induction n with
    | zero =>
      intro k u x2 e1 e2 hf hx
      have hr := hL.fr hf
      rw [List.take_of_length_le (by omega)] at hx
      have := h u hf
      rw [← hx] at this
      have h01 : x2 = 0 ∨ x2 = 1 := by rw [hx]; split <;> omega
      exact v126_4 ⟨fun _ => ⟨h01, this⟩, fun q => by have := hr.1; omega⟩ (hx3 := by have := hL.2.1; omega)
    | succ n ih =>
      intro k u x2 e1 e2 hf hx
      have hr := hL.fr hf
      have hk := hr.2.2 k (by omega)
      have hk24 := hL.2.1
      have h01 : x2 = 0 ∨ x2 = 1 := by rw [hx]; split <;> omega
      have hfk : L.getD k 0 < dN D := hLn _ (mem_gD (by omega))
      have hsn : alk D (L.take (k + 1)) e = (alk D (L.take k) e || alB D e (L.getD k 0)) := by
        unfold alk
        rw [take_snoc (d := 0) (by omega), any_snoc]
      have next : ∀ (u' : VS) (y : Int), FrC v u' → y = (if alk D (L.take (k + 1)) e = true then 1 else 0) → RW g C S m A 126 105 [some (.ref m), some (.int (iI e)), some (.int (iI y)), some (.int (iI k))] [] u' Q := fun u' y hu' hy => by
        have h01 : y = 0 ∨ y = 1 := by rw [hy]; split <;> omega
        exact v126_105 ⟨by omega, ih (k + 1) u' y (by omega) (by omega) hu' hy⟩
      have same : ¬ alB D e (L.getD k 0) = true → x2 = (if alk D (L.take (k + 1)) e = true then 1 else 0) := fun hn => by
        rw [hsn, hx]
        have : alB D e (L.getD k 0) = false := by simpa using hn
        rw [this, Bool.or_false]
      have r1 := hr.1
      refine v126_4 ⟨fun q => by omega, fun _ => ⟨by omega, fun q => next u x2 hf (same ?_), fun q => ?_⟩⟩
      · rw [hk] at q
        unfold alB
        rw [decide_eq_true_eq]
        exact fun s => s.1 (by omega)
      · rw [hk] at q
        have hu := hf.db hv
        refine s110 hD hu he (Or.inl rfl) (fun w1 t1 n1 f1 => v126_28 ⟨by omega, ?_⟩)
        have hk1 : w1 26 k = (L.getD k 0 : Nat) := by rw [f1.1 26 (by omega)]; exact hk
        rw [hk1]
        refine s110 hD (f1.db hu) hfk (Or.inr rfl) (fun w2 t2 n2 f2 => ?_)
        have t1' := t1.frB f2 (by decide) (Or.inr rfl)
        have n1' : w2 19 0 = np (val D e 0) := by rw [(f2.2.2.2 0 (by decide)).2]; exact n1
        have hf2 : FrC v w2 := (hf.trans f1.c).trans f2.c
        have ht := val_ok hD e 0
        have ht' := val_ok hD (L.getD k 0) 0
        have hB : alB D e (L.getD k 0) = decide (¬ L.getD k 0 = e ∧ 0 < np (val D e 0) ∧ 0 < np (val D (L.getD k 0) 0) ∧ fj (fa (val D e 0) 0) = fj (fa (val D (L.getD k 0) 0) 0) ∧ ¬ inits (gv (val D e 0) 0) = inits (gv (val D (L.getD k 0) 0) 0)) := rfl
        have hB : ∀ b : Prop, (alB D e (L.getD k 0) = true ↔ b) ↔ ((¬ L.getD k 0 = e ∧ 0 < np (val D e 0) ∧ 0 < np (val D (L.getD k 0) 0) ∧ fj (fa (val D e 0) 0) = fj (fa (val D (L.getD k 0) 0) 0) ∧ ¬ inits (gv (val D e 0) 0) = inits (gv (val D (L.getD k 0) 0) 0)) ↔ b) := fun b => by rw [hB, decide_eq_true_eq]
        have hB := (hB _).mpr Iff.rfl
        generalize alB D e (L.getD k 0) = AL at *
        generalize val D e 0 = t at *
        generalize val D (L.getD k 0) 0 = t' at *
        obtain ⟨x0, x1, x2'⟩ := tgs_sel t 0
        obtain ⟨y0, y1, y2⟩ := tgs_sel t' 0
        have r1 := fj_R (fa_K t 0) (fa_K t' 0) ht ht'
        refine v126_39 ⟨by decide, fun s => next w2 x2 hf2 (same (fun s2 => by have := hB.mp s2; omega)), fun s => ⟨by decide, fun s1 => next w2 x2 hf2 (same (fun s2 => by have := hB.mp s2; omega)), fun s1 => ?_⟩⟩
        refine s121 (p := 0) (q := 2) t1' t2 (by omega) (Or.inr (Or.inr rfl)) (by have := fa_K t 0; rw [← x2'] at this; exact this) (by have := fa_K t' 0; rw [← y2] at this; exact this) ht ht' (fun w3 f3 => ?_)
        have ee : cmpL (fj (sel (tgs t) ((0 : Nat) : Int) ((2 : Nat) : Int))) (fj (sel (tgs t') ((0 : Nat) : Int) ((2 : Nat) : Int))) = cmpL (fj (fa t 0)) (fj (fa t' 0)) := by
          have x2' : sel (tgs t) ((0 : Nat) : Int) ((2 : Nat) : Int) = _ := x2'
          have y2 : sel (tgs t') ((0 : Nat) : Int) ((2 : Nat) : Int) = _ := y2
          rw [x2', y2]
        rw [ee]
        have hf3 : FrC v w3 := hf2.trans f3.c
        refine v126_63 ⟨fun s2 => next w3 x2 hf3 (same (fun s3 => s2 (cmpL_zero.mpr (hB.mp s3).2.2.2.1))), fun s2 w4 e4 => ?_⟩ (hu0 := by omega)
        have s2 := cmpL_zero.mp s2
        obtain ⟨o4, f4⟩ := One.z e4
        have hf4 : FrT w2 w4 := f3.trans f4.t
        have l0 := (gv_K t 0).len
        have l0' := (gv_K t' 0).len
        have x0 : sel (tgs t) 0 0 = gv t 0 := x0
        have y0 : sel (tgs t') 0 0 = gv t' 0 := y0
        refine s118 (p := 0) (t1'.frT hf4) (by decide) o4 (by rw [x0]; show 0 + _ ≤ _; omega) (fun w5 o5 f5 => v126_77 ?_)
        rw [List.nil_append, x0] at o5
        have il := inits_len (ws := gv t 0)
        have il' := inits_len (ws := gv t' 0)
        refine s119 o5 (by omega) (fun w6 t6 o6 f6 => v126_81 ?_)
        have hf6 : FrT w2 w6 := (hf4.trans f5.t).trans f6
        refine s118 (p := 0) (t2.frT hf6) (by decide) o6 (by rw [y0]; show 0 + _ ≤ _; omega) (fun w7 o7 f7 => ?_)
        rw [List.nil_append, y0] at o7
        have hf7 : FrC v w7 := (hf2.trans hf6.c).trans f7.c
        have yes : ∀ w' {l2 : Option Value}, FrC v w' → (x2 = 1 ∨ ¬ inits (gv t 0) = inits (gv t' 0)) → RW g C S m A 126 99 [some (.ref m), some (.int (iI e)), l2, some (.int (iI k))] [] w' Q := fun w' l2 hw' hy => by
          refine v126_99 (v126_104 (next w' 1 hw' ?_))
          rw [hsn]
          rcases hy with hy | hy
          · have : alk D (L.take k) e = true := Decidable.of_not_not fun hn => by rw [if_neg hn] at hx; omega
            rw [this]; rfl
          · rw [hB.mpr ⟨fun s => q (by omega), by omega, by omega, s2, hy⟩, Bool.or_true]; rfl
        refine v126_87 ⟨fun s3 => yes w7 hf7 (Or.inl (by omega)), fun s3 => ?_⟩
        refine s120 (b := 0) (Or.inl rfl) o7 (t6.fr f7) (by omega) (inits_ok (gv_K t' 0) ht'.2) (inits_ok (gv_K t 0) ht.2) ?_
        have ez : fol 0 (inits (gv t 0)) = inits (gv t 0) := rfl
        have ez' : fol 0 (inits (gv t' 0)) = inits (gv t' 0) := rfl
        rw [ez, ez']
        have hcr : -70000 ≤ cmpL (inits (gv t 0)) (inits (gv t' 0)) ∧ cmpL (inits (gv t 0)) (inits (gv t' 0)) ≤ 70000 := by
          have hr : ∀ {l : List Int}, (∀ x, x ∈ l → okc x ∨ x = 32 ∨ x = 46) → ∀ i, 0 ≤ sg l i ∧ sg l i ≤ 65535 := fun {l} hl i => by
            by_cases q : 0 ≤ i ∧ i < l.length
            · rw [sg_in q]
              have := hl _ (getD_mem (l := l) (i := i.toNat) (by omega))
              unfold okc at this
              omega
            · rw [sg_out (by omega)]; omega
          exact cmpL_R (by omega) (by omega) (hr (inits_ok (gv_K t 0) ht.2)) (hr (inits_ok (gv_K t' 0) ht'.2))
        refine v126_96 ⟨fun s4 => v126_104 (next w7 0 hf7 ?_), fun s4 => yes w7 hf7 (Or.inr (fun s5 => s4 (cmpL_zero.mpr s5)))⟩ (hu0 := by omega)
        have : ¬ AL = true := fun s5 => (hB.mp s5).2.2.2.2 (cmpL_zero.mp s4)
        rw [← same this]
        exact s3.symm
  exact key _ 0 v 0 rfl (Nat.zero_le _) FrC.rfl rfl
end ROrd
