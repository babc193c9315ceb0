/-! TEXTS OF THE REFERENCE -/
theorem sg_l {X : List Int} : (if X = [] then [(32 : Int)] else [46, 32]).length ≤ 2 := by split <;> decide
section RText
variable {g : Nat → Nat} {C S m : Nat} {A : Nat → Nat} {v : VS} {Q : Rs → VS → Prop} {D : Db} {l lab X : List Int}
theorem s132 (hO : One v (lab ++ X)) (h37 : v 37 0 = lab.length) (hl : lab.length + X.length + 2 ≤ 1000) (h : ∀ w, One w (lab ++ X ++ (if X = [] then [32] else [46, 32])) → FrO v w → Q (Sum.inl none) w) : RW g C S m A 132 0 [some (.ref m)] [] v Q := by
  have h21 := hO.1
  rw [List.length_append] at h21
  refine v132_0 ⟨fun q => ?_, fun q => ?_⟩
  · have hX : X = [] := List.eq_nil_of_length_eq_zero (by omega)
    rw [if_pos hX] at h
    refine v132_19 (s111 hO (by rw [List.length_append]; omega) (by decide) (fun w o f => v132_22 ?_))
    have e37 : w 37 0 = v 37 0 := by rw [f 37 (by decide) (by decide)]
    have e21 := o.1
    rw [List.length_append, List.length_append] at e21
    have e21 : w 21 0 = ((lab.length + X.length + 1 : Nat) : Int) := e21
    have hX0 : X.length = 0 := by rw [hX]; rfl
    exact ⟨by omega, fun _ => v132_41 (h w o f), fun r => by omega⟩
  · have hX : ¬ X = [] := fun r => by rw [r] at h21; have h21 : v 21 0 = ((lab.length + 0 : Nat) : Int) := h21; omega
    rw [if_neg hX] at h
    have hXl : 0 < X.length := List.length_pos_iff.mpr hX
    refine v132_19 (s111 hO (by rw [List.length_append]; omega) (by decide) (fun w o f => v132_22 ?_))
    have e37 : w 37 0 = v 37 0 := by rw [f 37 (by decide) (by decide)]
    have e21 := o.1
    rw [List.length_append, List.length_append] at e21
    have e21 : w 21 0 = ((lab.length + X.length + 1 : Nat) : Int) := e21
    refine ⟨by omega, fun r => by omega, fun _ => s111 o (by rw [List.length_append, List.length_append]; show _ + 1 < _; omega) (by decide) (fun w2 o2 f2 => v132_41 (h w2 ?_ (f.trans f2)))⟩
    rw [List.append_assoc] at o2
    exact o2
theorem s133 {t : List Int} {p : Nat} (hT : WdR v 0 (tgs t)) (ht : t.length ≤ 80) (hp : p ≤ 100) (hO : One v l) (hl : l.length ≤ 700) (h : ∀ w, One w (l ++ ful t p) → FrO v w → Q (Sum.inl none) w) : RW g C S m A 133 0 [some (.ref m), some (.int (iI p))] [] v Q := by
  obtain ⟨x0, x1, x2⟩ := tgs_sel t p
  have b1 := (pa_K t p).1
  have b2 := (fa_K t p).1
  have b0 := (gv_K t p).len
  have hnl := nm_len t p
  unfold ful at h
  refine v133_0 (s117 hT (by omega) hO (by rw [x1, x2]; omega) (fun w o f => v133_6 (s116 (q := 0) (hT.fr f) (by omega) (by decide) ?_)))
  rw [x1, x2] at o
  have o : One w (l ++ nm t p) := o
  rw [x0]
  refine v133_13 ⟨fun q => v133_34 (h w ?_ f), fun q => ?_⟩ (hu0 := by split <;> omega)
  · have hg : gv t p = [] := Decidable.of_not_not fun r => by rw [if_neg r] at q; omega
    rw [if_pos hg, List.append_nil]
    exact o
  · have hg : ¬ gv t p = [] := fun r => by rw [if_pos r] at q; exact q rfl
    rw [if_neg hg] at h
    refine s111 o (by rw [List.length_append]; omega) (by decide) (fun w2 o2 f2 => v133_22 (s111 o2 (by rw [List.length_append, List.length_append]; show _ + 1 < _; omega) (by decide) (fun w3 o3 f3 => v133_28 ?_)))
    refine s118 (hT.fr ((f.trans f2).trans f3)) (by omega) o3 (by rw [x0, List.length_append, List.length_append, List.length_append]; show _ + 1 + 1 + _ ≤ _; omega) (fun w4 o4 f4 => v133_34 (h w4 ?_ (((f.trans f2).trans f3).trans f4)))
    rw [x0] at o4
    have e5 : tx 5 = [44, 32] := by decide
    rw [e5]
    simpa using o4
theorem s134 {e : Nat} (hD : DOK D) (hv : RDb v D) (he : e < dN D) (hO : One v (lab ++ X)) (h37 : v 37 0 = lab.length) (hl : lab.length + X.length ≤ 480) (h : ∀ w, One w (lab ++ (if np (val D e 0) = 0 then X else pce X (psn (val D e 0)))) → FrC v w → Q (Sum.inl none) w) : RW g C S m A 134 0 [some (.ref m), some (.int (iI e)), none, none] [] v Q := by
  have hd := hD.1
  have ht := (val_ok hD e 0).1
  have hn := np40 ht
  have htx := tx_l
  refine v134_0 (s110 hD hv he (Or.inl rfl) (fun w1 t1 n1 f1 => v134_6 ?_))
  rw [n1]
  generalize val D e 0 = t at *
  refine ⟨by decide, fun q => ?_, fun q => h w1 (by rw [if_pos (by omega)]; exact hO.frB f1) f1.c⟩
  rw [if_neg (by omega)] at h
  have hsl := sg_l (X := X)
  refine s132 (hO.frB f1) (by rw [f1.1 37 (by omega)]; exact h37) (by omega) (fun w2 o2 f2 => ?_)
  unfold pce psn at h
  have hla : (lab ++ X ++ (if X = [] then [32] else [46, 32])).length ≤ 482 := by
    rw [List.length_append, List.length_append]; omega
  have hassoc : ∀ P : List Int, lab ++ (X ++ (if X = [] then [32] else [46, 32]) ++ P) = (lab ++ X ++ (if X = [] then [32] else [46, 32])) ++ P := fun P => by simp
  simp only [hassoc] at h
  generalize lab ++ X ++ (if X = [] then [32] else [46, 32]) = Z at *
  refine v134_22 ⟨fun q1 => ?_, fun q1 => ?_⟩
  · rw [if_neg (by omega)] at h
    have loop : ∀ (n p : Nat) (u : VS) {l1 : Option Value}, np t - p = n → p ≤ np t → FrO w2 u → One u (Z ++ pn3 t p) → RW g C S m A 134 42 [some (.ref m), l1, some (.int (iI (np t))), some (.int (iI p))] [] u Q := by
      intro n
      induction n with
      | zero =>
        intro p u l1 p1 p2 hf hu
        rw [show p = np t by omega] at hu
        exact v134_42 ⟨fun _ => h u hu (f1.c.trans (f2.trans hf).c), fun r => by omega⟩
      | succ n ih =>
        intro p u l1 p1 p2 hf hu
        have hpl := pn3_len t p
        have hws := w3_sum t p
        have full : ∀ (u' : VS) (s : List Int) {l1 : Option Value}, s.length ≤ 5 → pn3 t (p + 1) = pn3 t p ++ s ++ ful t p → FrO w2 u' → One u' (Z ++ pn3 t p ++ s) → RW g C S m A 134 71 [some (.ref m), l1, some (.int (iI (np t))), some (.int (iI p))] [] u' Q := fun u' s l1 hs hp3 hf' hu' => by
          refine v134_71 (s133 (t1.fr (f2.trans hf')) ht (by omega) hu' (by rw [List.length_append, List.length_append]; omega) (fun w o f => v134_76 ⟨by omega, ih (p + 1) w (by omega) (by omega) (hf'.trans f) ?_⟩))
          rw [hp3]
          simpa using o
        refine v134_42 ⟨fun r => by omega, fun _ => ⟨fun r => full u [] (Nat.zero_le _) ?_ hf (by rw [List.append_nil]; exact hu), fun r => ⟨by omega, fun r2 => v134_68 (s112 (by decide) hu (by rw [by_comma, List.length_append]; omega) (fun w o f => full w (tx 5) (by omega) ?_ (hf.trans f) (by rw [by_comma] at o; exact o))), fun r2 => v134_68 (s112 (by decide) hu (by rw [by_and, List.length_append]; omega) (fun w o f => full w (tx 1) (by omega) ?_ (hf.trans f) (by rw [by_and] at o; exact o)))⟩⟩⟩
        · show pn3 t p ++ (if p = 0 then [] else if p + 1 = np t then tx 1 else tx 5) ++ ful t p = _
          rw [if_pos (by omega)]
        · show pn3 t p ++ (if p = 0 then [] else if p + 1 = np t then tx 1 else tx 5) ++ ful t p = _
          rw [if_neg (by omega), if_neg (by omega)]
        · show pn3 t p ++ (if p = 0 then [] else if p + 1 = np t then tx 1 else tx 5) ++ ful t p = _
          rw [if_neg (by omega), if_pos (by omega)]
    exact loop _ 0 w2 rfl (Nat.zero_le _) FrO.rfl (by show One w2 (Z ++ []); rw [List.append_nil]; exact o2)
  · rw [if_pos (by omega)] at h
    have hfl := ful_len t 0
    have hw3 := w3_sum t 1
    have hw3 : 0 + w3 t 0 ≤ t.length + 1 := hw3
    refine s133 (p := 0) (t1.fr f2) ht (by omega) o2 (by omega) (fun w3 o3 f3 => v134_32 (s112 (by decide) o3 (by rw [by_etal, List.length_append]; omega) (fun w4 o4 f4 => v134_39 (h w4 ?_ (f1.c.trans ((f2.trans f3).trans f4).c)))))
    rw [by_etal, List.append_assoc] at o4
    exact o4
theorem s135 {r : Int} {Y : List Int} (hr : Fld v r Y) (hO : One v (lab ++ X)) (h37 : v 37 0 = lab.length) (hl : lab.length + X.length + 2 + Y.length ≤ 1000) (h : ∀ w, One w (lab ++ pcV X Y) → FrO v w → Q (Sum.inl none) w) : RW g C S m A 135 0 [some (.ref m), some (.int (iI r))] [] v Q := by
  have hr5 := hr.s
  unfold pcV at h
  refine v135_0 ⟨fun q => v135_14 (h v ?_ FrO.rfl), fun q => ?_⟩ (hx1 := by omega)
  · rcases hr with ⟨-, q2⟩ | ⟨q1, -⟩
    · rw [if_pos q2]; exact hO
    · omega
  · rcases hr with ⟨q1, -⟩ | hr
    · exact absurd q1 q
    · rw [if_neg hr.2.2.2.2] at h
      have hsl := sg_l (X := X)
      refine s132 hO h37 (by omega) (fun w o f => v135_9 (s113 ((show Fld v r Y from Or.inr hr).fr (fun j _ _ => f j (by omega) (by omega))).s o (by rw [List.length_append, List.length_append]; omega) (fun w2 o2 f2 => v135_14 (h w2 ?_ (f.trans f2)))) (hx1 := by omega))
      unfold pce
      simpa using o2
theorem s136 {e : Nat} (hD : DOK D) (hv : RDb v D) (he : e < dN D) (hO : One v (lab ++ X)) (h37 : v 37 0 = lab.length) (hl : lab.length + X.length ≤ 780) (h : ∀ w, One w (lab ++ thd D e X) → FrO v w → Q (Sum.inl none) w) : RW g C S m A 136 0 [some (.ref m), some (.int (iI e)), none, none, none] [] v Q := by
  have hd := hD.1
  have hk := (hv.2.1 e he).1
  have hk4 := hD.2.1 e he
  have htx := tx_l
  have hsl := sg_l (X := X)
  refine v136_0 ?_
  rw [hk]
  generalize hK : dK D e = K at *
  have pg : ∀ (w : VS) (a z : List Int) {l3 l4 : Option Value}, (K = 0 ∧ z = tx 5 ∨ K = 2 ∧ z = tx 8) → a.length ≤ 880 → One w a → FrO v w → (∀ w, One w (a ++ if val D e 5 = [] then [] else z ++ val D e 5) → FrO v w → Q (Sum.inl none) w) → RW g C S m A 136 80 [some (.ref m), some (.int (iI e)), some (.int (iI K)), l3, l4] [] w Q := fun w a z l3 l4 hz ha hw hf hq => by
    have v5 := (val_ok hD e 5).1
    refine v136_80 (s103 hD (hv.fr (fun j _ _ => hf j (by omega) (by omega))) he (by decide) (fun r hr => ?_))
    have hr5 := hr.s
    refine v136_86 ⟨fun q => v136_117 (hq w ?_ hf), fun q => ?_⟩ (hu0 := by omega)
    · rcases hr with ⟨-, q2⟩ | ⟨q1, -⟩
      · rw [if_pos q2, List.append_nil]; exact hw
      · omega
    · rcases hr with ⟨q1, -⟩ | hr
      · exact absurd q1 q
      · rw [if_neg hr.2.2.2.2] at hq
        have fin : ∀ (w2 : VS) {l1 l2 l3 : Option Value}, One w2 (a ++ z) → FrO w w2 → RW g C S m A 136 111 [some (.ref m), l1, l2, l3, some (.int (iI r))] [] w2 Q := fun w2 l1 l2 l3 o2 f2 => by
          have hzl : z.length ≤ 6 := by
            rcases hz with ⟨-, s⟩ | ⟨-, s⟩
            · rw [s]; omega
            · rw [s]; omega
          refine v136_111 (s113 ((show Fld w r (val D e 5) from Or.inr hr).fr (fun j _ _ => f2 j (by omega) (by omega))).s o2 (by rw [List.length_append]; omega) (fun w3 o3 f3 => v136_117 (hq w3 ?_ ((hf.trans f2).trans f3)))) (hx4 := by omega)
          rw [List.append_assoc] at o3
          exact o3
        refine ⟨fun q2 => v136_108 (s112 (by decide) hw (by rw [by_pp]; omega) (fun w2 o2 f2 => fin w2 ?_ f2)) (hx4 := by omega), fun q2 => v136_108 (s112 (by decide) hw (by rw [by_comma]; omega) (fun w2 o2 f2 => fin w2 ?_ f2)) (hx4 := by omega)⟩
        · rw [by_pp] at o2
          rcases hz with ⟨s, -⟩ | ⟨-, s⟩
          · exact absurd s q2
          · rw [s]; exact o2
        · rw [by_comma] at o2
          rcases hz with ⟨-, s⟩ | ⟨s, -⟩
          · rw [s]; exact o2
          · omega
  have one37 : ∀ F z y : List Int, ∀ f : Nat, f < 8 → F = val D e f → (K = 0 ∧ f = 3 ∧ y = [] ∧ z = tx 5 ∨ K = 2 ∧ f = 6 ∧ y = tx 7 ∧ z = tx 8) → (∀ w, One w (lab ++ if F = [] then X else pce X (y ++ F) ++ if val D e 5 = [] then [] else z ++ val D e 5) → FrO v w → Q (Sum.inl none) w) → ∀ {l3 l4 : Option Value}, RW g C S m A 136 49 [some (.ref m), some (.int (iI e)), some (.int (iI K)), l3, l4] [.int (iI f), .int (iI e), .ref m] v Q := fun F z y f hf8 hF hK3 hq l3 l4 => by
    have vF := (val_ok hD e f).1
    rw [← hF] at vF
    refine v136_49 (s103 hD hv he hf8 (fun r hr => ?_))
    rw [← hF] at hr
    have hr5 := hr.s
    refine v136_52 ⟨fun q => ?_, fun q => hq v ?_ FrO.rfl⟩ (hu0 := by omega)
    · rcases hr with ⟨q1, -⟩ | hr
      · exact absurd q1 q
      · rw [if_neg hr.2.2.2.2] at hq
        have hyl : y.length ≤ 4 := by
          rcases hK3 with ⟨-, -, s, -⟩ | ⟨-, -, s, -⟩
          · rw [s]; exact Nat.zero_le _
          · rw [s]; omega
        have hK4 : K = 0 ∧ z = tx 5 ∨ K = 2 ∧ z = tx 8 := by
          rcases hK3 with ⟨s1, -, -, s2⟩ | ⟨s1, -, -, s2⟩
          · exact Or.inl ⟨s1, s2⟩
          · exact Or.inr ⟨s1, s2⟩
        refine s132 hO h37 (by omega) (fun w o f => ?_)
        have put : ∀ (w2 : VS) {l3 l4 : Option Value}, One w2 (lab ++ X ++ (if X = [] then [32] else [46, 32]) ++ y) → FrO w w2 → RW g C S m A 136 75 [some (.ref m), some (.int (iI e)), some (.int (iI K)), some (.int (iI r)), l4] [] w2 Q := fun w2 l3 l4 o2 f2 => by
          refine v136_75 (s113 ((show Fld v r F from Or.inr hr).fr (fun j _ _ => (f.trans f2) j (by omega) (by omega))).s o2 (by rw [List.length_append, List.length_append, List.length_append]; omega) (fun w3 o3 f3 => pg w3 _ z hK4 ?_ o3 ((f.trans f2).trans f3) (fun w4 o4 f4 => hq w4 ?_ f4))) (hx3 := by omega)
          · rw [List.length_append, List.length_append, List.length_append, List.length_append]; omega
          · unfold pce
            simpa using o4
        refine v136_63 ⟨fun q2 => put w (l3 := none) ?_ FrO.rfl, fun q2 => s112 (by decide) o (by rw [by_in, List.length_append, List.length_append]; omega) (fun w2 o2 f2 => put w2 (l3 := none) ?_ f2)⟩ (hx3 := by omega)
        · rcases hK3 with ⟨-, -, s, -⟩ | ⟨s, -⟩
          · rw [s, List.append_nil]; exact o
          · exact absurd s q2
        · rw [by_in] at o2
          rcases hK3 with ⟨s, -⟩ | ⟨-, -, s, -⟩
          · omega
          · rw [s]; exact o2
    · rcases hr with ⟨-, q2⟩ | ⟨q1, -⟩
      · rw [if_pos q2]; exact hO
      · omega
  unfold thd at h
  rw [hK] at h
  have rest : ∀ f : Nat, f < 8 → f = (if K = 4 then 7 else 4) → ¬ K = 0 → ¬ K = 2 → ∀ {l0 l1 l2 l3 l4 : Option Value}, RW g C S m A 136 30 [l0, l1, l2, l3, l4] [.int (iI f), .int (iI e), .ref m, .ref m] v Q := fun f hf8 hf k0 k2 l0 l1 l2 l3 l4 => by
    rw [if_neg k0, if_neg k2, ← hf] at h
    have vF := (val_ok hD e f).1
    refine v136_30 (s103 hD hv he hf8 (fun r hr => v136_33 (s135 hr hO h37 (by omega) (fun w o f => v136_36 (h w o f))) (hu0 := by have := hr.s; omega)))
  refine ⟨by omega, fun q => v136_37 ⟨fun q1 => absurd q q1, fun _ => ?_⟩, fun q => ⟨fun q1 => v136_37 ⟨fun _ => ?_, fun q2 => absurd q2 q⟩, fun q1 => ⟨fun q2 => rest 4 (by decide) (by rw [if_neg q2]) q q1, fun q2 => rest 7 (by decide) (by rw [if_pos q2]) q q1⟩⟩⟩
  · rw [if_pos q] at h
    exact one37 (val D e 3) (tx 5) [] 3 (by decide) rfl (Or.inl ⟨q, rfl, rfl, rfl⟩) h
  · rw [if_neg q, if_pos q1] at h
    exact one37 (val D e 6) (tx 8) (tx 7) 6 (by decide) rfl (Or.inr ⟨q1, rfl, rfl, rfl⟩) h
theorem s137 {x : Int} (hx : 0 ≤ x ∧ x ≤ 99) (hO : One v l) (hl : l.length + 2 ≤ 1000) (h : ∀ w, One w (l ++ nmb x) → FrO v w → Q (Sum.inl none) w) : RW g C S m A 137 0 [some (.ref m), some (.int (iI x))] [] v Q := by
  unfold nmb at h
  refine v137_0 ⟨fun q => v137_17 ⟨by omega, by omega, s111 hO (by omega) (by omega) (fun w o f => v137_28 (h w ?_ f))⟩, fun q => ⟨by omega, by omega, s111 hO (by omega) (by omega) (fun w o f => v137_17 ⟨by omega, by omega, s111 o (by rw [List.length_append]; show _ + 1 < _; omega) (by omega) (fun w2 o2 f2 => v137_28 (h w2 ?_ (f.trans f2)))⟩)⟩⟩
  · rw [if_pos (by omega)]; exact o
  · rw [if_neg (by omega)]
    rw [List.append_assoc] at o2
    exact o2
/-- texts -/
def FrX (k : Nat) (v w : VS) : Prop := (∀ j, (j < 13 ∨ 23 < j) → ¬ j = 30 → ¬ j = 31 → ¬ j = 37 → w j = v j) ∧ (∀ x : Int, ¬ x = k → w 30 x = v 30 x) ∧ ∀ x : Int, (x < 1000 * k ∨ 1000 * k + 1000 ≤ x) → w 31 x = v 31 x
theorem FrC.mx {v w : VS} {k : Nat} (h : FrC v w) : FrX k v w := ⟨fun j hj _ _ _ => h j hj, fun x _ => by rw [h 30 (by omega)], fun x _ => by rw [h 31 (by omega)]⟩
theorem FrX.trans {v w u : VS} {k : Nat} (h : FrX k v w) (h' : FrX k w u) : FrX k v u := ⟨fun j h1 h2 h3 h4 => (h'.1 j h1 h2 h3 h4).trans (h.1 j h1 h2 h3 h4), fun x hx => (h'.2.1 x hx).trans (h.2.1 x hx), fun x hx => (h'.2.2 x hx).trans (h.2.2 x hx)⟩
theorem FrX.db {v w : VS} {k : Nat} {D : Db} (h : RDb v D) (hf : FrX k v w) : RDb w D := h.fr (fun j _ _ => hf.1 j (by omega) (by omega) (by omega) (by omega))
def Txx (v : VS) (k : Nat) (b : List Int) : Prop := v 30 k = b.length ∧ b.length ≤ 1000 ∧ Hd (v 31) (1000 * (k : Int)) b
theorem s138 {k lt : Nat} {L : List Nat} {lb : Int} {b : List Int} (hD : DOK D) (hv : RDb v D) (hL : Rws v L) (hLn : ∀ x, x ∈ L → x < dN D) (hk : k < L.length) (hlb : v 12 0 = lb) (hb : Bsx v k b) (hb3 : b.length ≤ 300) (hlt : v 27 k = lt) (hlt2 : lt ≤ 24) (h : ∀ w, Txx w k (txt D lb k b lt (L.getD k 0)) → FrX k v w → Q (Sum.inl none) w) : RW g C S m A 138 0 [some (.ref m), some (.int (iI k)), none, none] [] v Q := by
  have hd := hD.1
  have h24 := hL.2.1
  have hr := hL.2.2 k hk
  have he : L.getD k 0 < dN D := hLn _ (mem_gD hk)
  generalize hE : L.getD k 0 = E at *
  have hll := lbl_len lb k b lt
  have hpl := pcs_len hD E
  have v1 := (val_ok hD E 1).1
  have v2 := (val_ok hD E 2).1
  -- the text goes to its place
  have cp : ∀ (w : VS) (b : List Int) {l2 l3 : Option Value}, b = txt D lb k b lt E ∨ True → b.length ≤ 1000 → One w b → FrX k v w → (∀ w, Txx w k b → FrX k v w → Q (Sum.inl none) w) → RW g C S m A 138 175 [some (.ref m), some (.int (iI k)), l2, l3] [] w Q := fun w b l2 l3 _ hbl hw hf hq => by
    have h21 := hw.1
    refine v138_175 ⟨by omega, fun w2 e2 => ?_⟩
    have loop : ∀ (n i : Nat) (u : VS) {l2 : Option Value}, b.length - i = n → i ≤ b.length → FrX k v u → u 30 k = b.length → One u b → Hd (u 31) (1000 * (k : Int)) (b.take i) → RW g C S m A 138 187 [some (.ref m), some (.int (iI k)), l2, some (.int (iI i))] [] u Q := by
      intro n
      induction n with
      | zero =>
        intro i u l2 i1 i2 hfu h28 hu hh
        have := hu.1
        rw [List.take_of_length_le (by omega)] at hh
        exact v138_187 ⟨fun _ => hq u ⟨h28, by omega, hh⟩ hfu, fun q => by omega⟩
      | succ n ih =>
        intro i u l2 i1 i2 hfu h28 hu hh
        have h21 := hu.1
        have h20 := hu.2.at0 (x := i) (by omega)
        rw [Int.toNat_natCast] at h20
        refine v138_187 ⟨fun q => by omega, fun _ => ⟨by omega, by omega, by omega, by omega, fun w5 e5 => ⟨by omega, ?_⟩⟩⟩
        have k29 : ∀ x, w5 31 x = if x = 1000 * (k : Int) + i then u 20 i else u 31 x := fun x => by rw [e5, uv_s]
        have ko : ∀ j, ¬ j = 31 → w5 j = u j := fun j hj => by rw [e5, uv_j hj]
        have htl : (b.take i).length = i := by rw [List.length_take]; omega
        refine ih (i + 1) w5 (by omega) (by omega) (hfu.trans ⟨fun j _ _ q _ => ko j q, fun x _ => by rw [ko 30 (by decide)], fun x hx => by rw [k29, if_neg (by omega)]⟩) (by rw [ko 30 (by decide)]; exact h28) ⟨by rw [ko 21 (by decide)]; exact h21, by rw [ko 20 (by decide)]; exact hu.2⟩ ?_
        rw [take_snoc (d := 0) (by omega), ← h20]
        refine hh.app (fun j hj => ?_) ?_
        · rw [htl] at hj
          rw [k29, if_neg (by omega)]
        · rw [htl, k29, if_pos rfl]
    have ko : ∀ j, ¬ j = 30 → w2 j = w j := fun j hj => by rw [e2, uv_j hj]
    refine loop _ 0 w2 rfl (Nat.zero_le _) (hf.trans ⟨fun j _ q _ _ => ko j q, fun x hx => by rw [e2, uv_s, if_neg hx], fun x _ => by rw [ko 31 (by decide)]⟩) (by rw [e2, uv_s, if_pos rfl]; exact h21) ⟨by rw [ko 21 (by decide)]; exact h21, by rw [ko 20 (by decide)]; exact hw.2⟩ (fun i hi => absurd hi (Nat.not_lt_zero _))
  -- behind the label
  have c120 : ∀ (w : VS) {l3 : Option Value}, One w (lbl lb k b lt) → FrO v w → RW g C S m A 138 120 [some (.ref m), some (.int (iI k)), some (.int (iI E)), l3] [] w Q := fun w l3 hw hf => by
    unfold txt pcs at h
    unfold pcs at hpl
    refine v138_120 (fun w1 e1 => ?_) (hx2 := by omega)
    generalize lbl lb k b lt = lab at *
    have h21 := hw.1
    have k37 : w1 37 0 = lab.length := by rw [e1, uv_eq]; exact h21
    have o1 : One w1 (lab ++ []) := by
      rw [List.append_nil]
      exact ⟨by rw [e1, uv_j (by decide)]; exact h21, by rw [e1, uv_j (by decide)]; exact hw.2⟩
    have f1 : FrX k v w1 := hf.c.mx.trans ⟨fun j _ _ _ q => by rw [e1, uv_j q], fun x _ => by rw [e1, uv_j (by decide)], fun x _ => by rw [e1, uv_j (by decide)]⟩
    refine s134 hD (f1.db hv) he o1 k37 (by show _ + 0 ≤ _; omega) (fun w2 o2 f2 => v138_133 ?_ (hx2 := by omega))
    have hX0 : (if np (val D E 0) = 0 then [] else pce [] (psn (val D E 0))).length ≤ 162 := by
      split
      · show 0 ≤ 162; omega
      · have := pce_len (X := []) (P := psn (val D E 0))
        have h0 := psn_len (val_ok hD E 0).1
        have : (pce [] (psn (val D E 0))).length ≤ 0 + 2 + (psn (val D E 0)).length := this
        omega
    generalize (if np (val D E 0) = 0 then [] else pce [] (psn (val D E 0))) = X0 at *
    have f2' : FrX k v w2 := f1.trans f2.mx
    have k37' : w2 37 0 = lab.length := by rw [f2 37 (by omega)]; exact k37
    have l1 := pcV_len (X := X0) (P := val D E 1)
    have l2 := thd_len hD E (pcV X0 (val D E 1))
    have l3 := pcV_len (X := thd D E (pcV X0 (val D E 1))) (P := val D E 2)
    refine s103 (f := 1) hD (f2'.db hv) he (by decide) (fun r hr => v138_140 (s135 hr o2 k37' (by omega) (fun w3 o3 f3 => v138_143 ?_ (hx2 := by omega))) (hx2 := by omega) (hu0 := by have := hr.s; omega))
    have f3' : FrX k v w3 := f2'.trans f3.c.mx
    have k37'' : w3 37 0 = lab.length := by rw [f3 37 (by omega) (by omega)]; exact k37'
    refine s136 hD (f3'.db hv) he o3 k37'' (by omega) (fun w4 o4 f4 => v138_148 ?_ (hx2 := by omega))
    have f4' : FrX k v w4 := f3'.trans f4.c.mx
    have k37''' : w4 37 0 = lab.length := by rw [f4 37 (by omega) (by omega)]; exact k37''
    refine s103 (f := 2) hD (f4'.db hv) he (by decide) (fun r hr => v138_155 (s135 hr o4 k37''' (by omega) (fun w5 o5 f5 => ?_)) (hu0 := by have := hr.s; omega))
    have f5' : FrX k v w5 := f4'.trans f5.c.mx
    have k5 : w5 37 0 = lab.length := by rw [f5 37 (by omega) (by omega)]; exact k37'''
    have h21' := o5.1
    rw [List.length_append] at h21'
    generalize pcV (thd D E (pcV X0 (val D E 1))) (val D E 2) = Z at *
    refine v138_158 ⟨fun q => ?_, fun q => ?_⟩
    · have hZ : Z = [] := List.eq_nil_of_length_eq_zero (by omega)
      rw [if_pos hZ, List.append_nil] at h
      exact cp w5 _ (Or.inr trivial) (by rw [List.length_append]; omega) o5 f5' h
    · have hZ : ¬ Z = [] := fun r => by rw [r] at h21'; have h21' : w5 21 0 = ((lab.length + 0 : Nat) : Int) := h21'; omega
      rw [if_neg hZ] at h
      exact s111 o5 (by rw [List.length_append]; omega) (by decide) (fun w6 o6 f6 => cp w6 _ (Or.inr trivial) (by rw [List.length_append, List.length_append]; show _ + 1 ≤ _; omega) o6 (f5'.trans f6.c.mx) h)
  have c101 : ∀ (w : VS) {l3 : Option Value}, One w ([if lb = 2 then 40 else 91] ++ (if lb = 0 then nmb ((k : Int) + 1) else []) ++ b ++ (if lt = 0 then [] else [96 + (lt : Int)])) → FrO v w → RW g C S m A 138 101 [some (.ref m), some (.int (iI k)), some (.int (iI E)), l3] [] w Q := fun w l3 hw hf => by
    have h12 : w 12 0 = lb := by rw [hf 12 (by decide) (by decide)]; exact hlb
    have hll' : ([if lb = 2 then 40 else 91] ++ (if lb = 0 then nmb ((k : Int) + 1) else []) ++ b ++ (if lt = 0 then [] else [96 + (lt : Int)])).length ≤ 999 := by
      unfold lbl at hll
      rw [List.length_append] at hll
      omega
    unfold lbl at c120
    refine v138_101 ?_ (hx2 := by omega)
    rw [h12]
    refine ⟨fun q => v138_117 (s111 hw (by omega) (by decide) (fun w2 o2 f2 => c120 w2 ?_ (hf.trans f2))) (hx2 := by omega), fun q => v138_117 (s111 hw (by omega) (by decide) (fun w2 o2 f2 => c120 w2 ?_ (hf.trans f2))) (hx2 := by omega)⟩
    · rw [if_neg q] at o2
      rw [if_neg q, if_neg q]
      exact o2
    · rw [if_pos q] at o2
      rw [if_pos q, if_pos q]
      exact o2
  have c45 : ∀ (w : VS) {l3 : Option Value}, One w ([if lb = 2 then 40 else 91] ++ (if lb = 0 then nmb ((k : Int) + 1) else [])) → FrO v w → RW g C S m A 138 45 [some (.ref m), some (.int (iI k)), some (.int (iI E)), l3] [] w Q := fun w l3 hw hf => by
    have hll' : ([if lb = 2 then 40 else 91] ++ (if lb = 0 then nmb ((k : Int) + 1) else [])).length ≤ 3 := by
      rw [List.length_append]
      have : (if lb = 0 then nmb ((k : Int) + 1) else []).length ≤ 2 := by
        split
        · exact nmb_len
        · show 0 ≤ 2; omega
      show 1 + _ ≤ 3
      omega
    refine v138_45 ?_ (hx2 := by omega)
    generalize [if lb = 2 then 40 else 91] ++ (if lb = 0 then nmb ((k : Int) + 1) else []) = Z at *
    have loop : ∀ (n i : Nat) (u : VS), b.length - i = n → i ≤ b.length → FrO v u → One u (Z ++ b.take i) → RW g C S m A 138 47 [some (.ref m), some (.int (iI k)), some (.int (iI E)), some (.int (iI i))] [] u Q := by
      intro n
      induction n with
      | zero =>
        intro i u i1 i2 hfu hu
        have e28 : u 28 k = b.length := by rw [hfu 28 (by decide) (by decide)]; exact hb.1
        have e27 : u 27 k = lt := by rw [hfu 27 (by decide) (by decide)]; exact hlt
        rw [List.take_of_length_le (by omega)] at hu
        refine v138_47 ?_ (hx2 := by omega)
        rw [e28, e27]
        refine ⟨by omega, fun _ => ⟨by omega, fun q => c101 u ?_ hfu, fun q => ⟨by omega, by omega, s111 hu (by rw [List.length_append]; omega) (by omega) (fun w2 o2 f2 => c101 w2 ?_ (hfu.trans f2))⟩⟩, fun q => by omega⟩
        · rw [if_pos (by omega), List.append_nil]; exact hu
        · rw [if_neg (by omega)]; exact o2
      | succ n ih =>
        intro i u i1 i2 hfu hu
        refine qv_R fun hv' => ?_
        have e28 : u 28 k = b.length := by rw [hfu 28 (by decide) (by decide)]; exact hb.1
        have e29 : u 29 (400 * (k : Int) + i) = b.getD i 0 := by rw [hfu 29 (by decide) (by decide)]; exact hb.2.2 i (by omega)
        have hR := hv' 29 (400 * (k : Int) + i)
        rw [e29] at hR
        refine v138_47 ?_ (hx2 := by omega)
        rw [e28, e29]
        refine ⟨by omega, fun q => by omega, fun _ => ⟨by omega, by omega, by omega, s111 hu (by rw [List.length_append, List.length_take]; omega) hR (fun w2 o2 f2 => v138_73 ⟨by omega, ih (i + 1) w2 (by omega) (by omega) (hfu.trans f2) ?_⟩ (hx2 := by omega))⟩⟩
        rw [take_snoc (d := 0) (by omega), ← List.append_assoc]
        exact o2
    exact loop _ 0 w rfl (Nat.zero_le _) hf (by show One w (Z ++ []); rw [List.append_nil]; exact hw)
  refine v138_0 ⟨by omega, fun w2 e2 => ?_⟩
  rw [hr]
  obtain ⟨o2, f2⟩ := One.z e2
  have h12 : w2 12 0 = lb := by rw [f2 12 (by decide) (by decide)]; exact hlb
  have c31 : ∀ (w : VS) {l3 : Option Value}, One w [if lb = 2 then 40 else 91] → FrO v w → RW g C S m A 138 31 [some (.ref m), some (.int (iI k)), some (.int (iI E)), l3] [] w Q := fun w l3 hw hf => by
    have h12 : w 12 0 = lb := by rw [hf 12 (by decide) (by decide)]; exact hlb
    refine v138_31 ?_ (hx2 := by omega)
    rw [h12]
    refine ⟨fun q => c45 w ?_ hf, fun q => ⟨by omega, s137 (by omega) hw (by show 1 + 2 ≤ 1000; omega) (fun w3 o3 f3 => c45 w3 ?_ (hf.trans f3))⟩⟩
    · rw [if_neg (c := lb = 0) q, List.append_nil]; exact hw
    · rw [if_pos (c := lb = 0) q]; exact o3
  rw [h12]
  refine ⟨fun q => v138_28 (s111 o2 (by decide) (by decide) (fun w3 o3 f3 => c31 w3 ?_ (f2.trans f3))) (hx2 := by omega), fun q => v138_28 (s111 o2 (by decide) (by decide) (fun w3 o3 f3 => c31 w3 ?_ (f2.trans f3))) (hx2 := by omega)⟩
  · rw [if_neg q]; exact o3
  · rw [if_pos q]; exact o3
/-- what is missing -/
def Lks (v : VS) (M : List (Nat × Nat)) : Prop := v 32 0 = M.length ∧ M.length ≤ 96 ∧ ∀ i : Nat, i < M.length → v 33 i = ((M.getD i (0, 0)).1 : Nat) ∧ v 34 i = ((M.getD i (0, 0)).2 : Nat)
def FrK (v w : VS) : Prop := ∀ j, ¬ j = 32 → ¬ j = 33 → ¬ j = 34 → w j = v j
theorem FrK.rfl {v : VS} : FrK v v := fun _ _ _ _ => by rfl
theorem FrK.trans {v w u : VS} (h : FrK v w) (h' : FrK w u) : FrK v u := fun j h1 h2 h3 => (h' j h1 h2 h3).trans (h j h1 h2 h3)
theorem FrK.db {v w : VS} {D : Db} (h : RDb v D) (hf : FrK v w) : RDb w D := h.fr (fun j _ _ => hf j (by omega) (by omega) (by omega))
theorem s139 {e f : Nat} {M : List (Nat × Nat)} (hD : DOK D) (hv : RDb v D) (he : e < dN D) (hf : f < 8) (hM : Lks v M) (hl : M.length < 96) (h : ∀ w, Lks w (M ++ wnt D e f) → FrK v w → Q (Sum.inl none) w) : RW g C S m A 139 0 [some (.ref m), some (.int (iI e)), some (.int (iI f))] [] v Q := by
  have hd := hD.1
  unfold wnt at h
  refine v139_0 (s103 hD hv he hf (fun r hr => ?_))
  have hr5 := hr.s
  obtain ⟨m1, m2, m3⟩ := hM
  refine v139_6 ⟨fun q => v139_40 (h v ?_ FrK.rfl), fun q => ⟨by omega, fun w2 e2 => ?_⟩⟩ (hu0 := by omega)
  · rcases hr with ⟨q1, -⟩ | hr
    · exact absurd q1 q
    · rw [if_neg hr.2.2.2.2, List.append_nil]
      exact ⟨m1, m2, m3⟩
  · have hz : val D e f = [] := by
      rcases hr with ⟨-, q2⟩ | ⟨q1, -⟩
      · exact q2
      · omega
    rw [if_pos hz] at h
    have e32 : w2 32 = v 32 := by rw [e2, uv_j (by decide)]
    rw [e32]
    refine ⟨by omega, fun w4 e4 => ?_⟩
    have e32' : w4 32 = v 32 := by rw [e4, uv_j (by decide), e32]
    rw [e32']
    refine ⟨by omega, fun w6 e6 => v139_40 (h w6 ⟨?_, ?_, fun i hi => ?_⟩ (fun j q1 q2 q3 => by rw [e6, uv_j q1, e4, uv_j q3, e2, uv_j q2]))⟩
    · rw [e6, uv_eq, m1, List.length_append]; rfl
    · rw [List.length_append]; show _ + 1 ≤ 96; omega
    · rw [List.length_append] at hi
      have hi : i < M.length + 1 := hi
      rw [e6, uv_j (by decide), uv_j (by decide), e4, uv_s, uv_j (by decide), e2, uv_s, uv_j (by decide), m1]
      by_cases s : i = M.length
      · rw [if_pos (by omega), if_pos (by omega), gD_eq s]
        exact ⟨rfl, rfl⟩
      · rw [if_neg (by omega), if_neg (by omega), gD_lt (by omega)]
        exact m3 i (by omega)
theorem wnt_len (D : Db) (e f : Nat) : (wnt D e f).length ≤ 1 := by unfold wnt; split <;> simp
theorem s140 {e : Nat} {M : List (Nat × Nat)} (hD : DOK D) (hv : RDb v D) (he : e < dN D) (hM : Lks v M) (hl : M.length + 4 ≤ 96) (h : ∀ w, Lks w (M ++ lck D e) → FrK v w → Q (Sum.inl none) w) : RW g C S m A 140 0 [some (.ref m), some (.int (iI e)), none] [] v Q := by
  have hd := hD.1
  have hk := (hv.2.1 e he).1
  have hk4 := hD.2.1 e he
  refine v140_0 ?_
  rw [hk]
  unfold lck ned at h
  generalize dK D e = K at *
  have c64 : ∀ (w : VS) (N : List (Nat × Nat)) (R : List Nat) {l0 l1 l2 : Option Value}, Lks w N → FrK v w → (M ++ R.flatMap (wnt D e) = N) → (R = if K = 0 then [0, 1, 2, 3] else if K = 1 then [0, 1, 2, 4] else if K = 2 then [0, 1, 2, 6] else if K = 3 then [1, 2] else [1]) → RW g C S m A 140 64 [l0, l1, l2] [] w Q := fun w N R l0 l1 l2 hw hf hN hR => by
    rw [← hR, hN] at h
    exact v140_64 (h w hw hf)
  have c35 : ∀ (w : VS) (N : List (Nat × Nat)) (R : List Nat), Lks w N → FrK v w → N.length < 96 → M ++ R.flatMap (wnt D e) = N → (R = if K = 0 then [0, 1, 2] else if K = 1 then [0, 1, 2] else if K = 2 then [0, 1, 2] else if K = 3 then [1, 2] else [1]) → RW g C S m A 140 35 [some (.ref m), some (.int (iI e)), some (.int (iI K))] [] w Q := fun w N R hw hf hl hN hR => by
    have go : ∀ f : Nat, f < 8 → (R ++ [f] = if K = 0 then [0, 1, 2, 3] else if K = 1 then [0, 1, 2, 4] else if K = 2 then [0, 1, 2, 6] else if K = 3 then [1, 2] else [1]) → ∀ {l0 l1 l2 : Option Value}, RW g C S m A 140 61 [l0, l1, l2] [.int (iI f), .int (iI e), .ref m] w Q := fun f hf8 hRf l0 l1 l2 => v140_61 (s139 hD (hf.db hv) he hf8 hw hl (fun w2 o2 f2 => c64 w2 _ (R ++ [f]) o2 (hf.trans f2) (by rw [List.flatMap_append, ← List.append_assoc, hN]; simp) hRf))
    refine v140_35 ⟨fun q => c64 w N R hw hf hN ?_, fun q => ⟨fun q1 => ⟨fun q2 => go 6 (by decide) ?_, fun q2 => go 4 (by decide) ?_⟩, fun q1 => go 3 (by decide) ?_⟩⟩
    · rw [if_neg (by omega), if_neg (by omega), if_neg (by omega)] at hR
      rw [if_neg (by omega), if_neg (by omega), if_neg (by omega)]
      exact hR
    · rw [if_neg q1, if_neg q2, if_pos (by omega)] at hR
      rw [if_neg q1, if_neg q2, if_pos (by omega), hR]
      rfl
    · rw [if_neg q1, if_pos q2] at hR
      rw [if_neg q1, if_pos q2, hR]
      rfl
    · rw [if_pos q1] at hR
      rw [if_pos q1, hR]
      rfl
  have c24 : ∀ (w : VS) (N : List (Nat × Nat)) (R : List Nat), Lks w N → FrK v w → N.length + 2 ≤ 96 → M ++ R.flatMap (wnt D e) = N → (R = if K = 0 then [0, 1] else if K = 1 then [0, 1] else if K = 2 then [0, 1] else [1]) → RW g C S m A 140 24 [some (.ref m), some (.int (iI e)), some (.int (iI K))] [] w Q := fun w N R hw hf hl hN hR => by
    refine v140_24 ⟨fun q => c35 w N R hw hf (by omega) hN ?_, fun q => s139 (f := 2) hD (hf.db hv) he (by decide) hw (by omega) (fun w2 o2 f2 => c35 w2 _ (R ++ [2]) o2 (hf.trans f2) ?_ (by rw [List.flatMap_append, ← List.append_assoc, hN]; simp) ?_)⟩
    · rw [if_neg (by omega), if_neg (by omega), if_neg (by omega)] at hR
      rw [if_neg (by omega), if_neg (by omega), if_neg (by omega), if_neg (by omega)]
      exact hR
    · have := wnt_len D e 2
      rw [List.length_append]; omega
    · rw [hR]
      (repeat' split) <;> first | rfl | omega
  have c18 : ∀ (w : VS) (N : List (Nat × Nat)) (R : List Nat), Lks w N → FrK v w → N.length + 3 ≤ 96 → M ++ R.flatMap (wnt D e) = N → (R = if K < 3 then [0] else []) → RW g C S m A 140 18 [some (.ref m), some (.int (iI e)), some (.int (iI K))] [] w Q := fun w N R hw hf hl hN hR => by
    refine v140_18 (s139 (f := 1) hD (hf.db hv) he (by decide) hw (by omega) (fun w2 o2 f2 => c24 w2 _ (R ++ [1]) o2 (hf.trans f2) ?_ (by rw [List.flatMap_append, ← List.append_assoc, hN]; simp) ?_))
    · have := wnt_len D e 1
      rw [List.length_append]; omega
    · rw [hR]
      (repeat' split) <;> first | rfl | omega
  refine ⟨by omega, fun q => c18 v M [] hM FrK.rfl (by omega) (by simp) (by rw [if_neg (by omega)]), fun q => s139 (f := 0) hD hv he (by decide) hM (by omega) (fun w2 o2 f2 => c18 w2 _ [0] o2 f2 ?_ (by simp) (by rw [if_pos (by omega)]))⟩
  have := wnt_len D e 0
  rw [List.length_append]; omega
end RText
