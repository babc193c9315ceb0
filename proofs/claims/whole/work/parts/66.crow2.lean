/-! bases and texts of rows -/
section CRow2
variable {g : Nat → Nat} {B : Nat} {O : Nat → Prop} {c : CS} {Q : Rs → CS → Prop} {ℓ : LB} {Es : List Nat} {D : Db} {r n : Nat}
theorem prt_3 (y : List Int) : prt y 0 3 = y.take 3 := by
  unfold prt
  rfl
theorem prt_2 (y : List Int) : prt y ((y.length : Int) - 2) (y.length : Int) = y.drop (y.length - 2) := by
  unfold prt
  rw [Int.toNat_natCast, List.take_of_length_le (Nat.le_refl _), show ((y.length : Int) - 2).toNat = y.length - 2 by omega]
theorem t44 {a : Nat} (h : RC c ℓ Es D r n) (ha : yP c r 5 = some a) (haK : yK c a = 7) (hal : ℓ a = (r, 5)) (hz : yT c a = []) (hQ : Q (Sum.inl none) (wT c a (shB D n))) : CW g B O 44 0 [some (.ref r), none] [] c Q := by
  obtain ⟨p, p1, p2, p3⟩ := h.pv
  have ht := val_ok h.1 n 0
  have hy := val_ok h.1 n 2
  have hk := (h.1.2.2.1 n).1
  have hn := np40 ht.1
  have hnp := p2.2.1
  obtain ⟨e1, e2⟩ := h.ent
  obtain ⟨ky, k1, k2, k3, k4⟩ := (h.2.1.2 n h.2.2.1).2.1
  have c74 : ∀ (Z : List Int), Z.length ≤ 100 → shB D n = Z ++ (val D n 2).drop ((val D n 2).length - 2) → ∀ {l1 : Option Value}, CW g B O 44 74 [some (.ref r), l1] [] (wT c a Z) Q := fun Z hZ hsh l1 => by
    have h' := h.out (l := Z) hal (Or.inr (Or.inl rfl))
    refine c44_74 ⟨h.rk, _, e1, e2, t3 (f := 2) h'.1 h'.2.1 h'.2.2.1 (by decide) (fun w w1 w2 w3 => c44_82 ⟨h.rk, a, ha, w1, ?_, w1, haK, w1, Or.inr (Int.le_refl _), ?_, fun d ed => ?_⟩)⟩
    · rw [w2]; omega
    · rw [yT_wT, w2, prt_2, List.length_drop]; omega
    · rw [w2, prt_2, yT_wT, wT_wT, ← hsh] at ed
      rw [ed]; exact hQ
  have c0 : wT c a [] = c := by rw [← hz, wT_self]
  refine c44_0 ⟨h.rk, p, p1, p2.1.1, t19 p2.1.1 ?_⟩
  rw [hnp]
  refine c44_7 ⟨fun q => ⟨h.rk, p, p1, p2.1.1, t19 p2.1.1 ?_⟩, fun q => ?_⟩
  · rw [hnp]
    refine c44_36 ⟨fun q1 => ⟨h.rk, p, p1, h.rk, a, ha, p2.1.1, t37 p2 ht.1 haK (p3 a 5 hal) (by rw [hz]; exact Nat.zero_le _) ?_⟩, fun q1 => ⟨h.rk, p, p1, h.rk, a, ha, p2.1.1, t32 (i := 0) p2 (by omega) ht.1 haK (p3 a 5 hal) (by rw [hz]; show 0 + 81 ≤ 1024; omega) ?_⟩⟩
    · rw [hz, List.nil_append]
      refine c74 _ ?_ ?_
      · have := fsg_len (val D n 0) (min (np (val D n 0)) 4)
        rw [List.length_append]
        split
        · show _ + 1 ≤ _; omega
        · show _ + 0 ≤ _; omega
      · unfold shB
        rw [if_neg (by omega), if_neg (by omega)]
    · rw [hz, List.nil_append]
      refine c44_52 ⟨h.rk, a, ha, haK, by decide, fun d ed => ?_⟩
      rw [yT_wT, wT_wT] at ed
      rw [ed]
      refine c74 _ (by rw [List.length_take]; omega) ?_
      unfold shB
      rw [if_neg (by omega), if_pos (by omega), if_neg (by omega), List.append_nil]
      rfl
  · refine ⟨h.rk, a, ha, h.rk, _, e1, e2, ky, k1, haK, k2, Or.inl (fun s => ?_), ?_, fun d ed => ?_⟩
    · have : ℓ ky = (r, 5) := by rw [← s]; exact hal
      rw [k3] at this
      have := congrArg Prod.fst this
      dsimp only at this
      rw [this] at e2
      have := h.rk
      omega
    · rw [hz, k4, prt_3, List.length_take]; show 0 + _ ≤ _; omega
    · rw [hz, k4, prt_3, List.nil_append] at ed
      rw [ed]
      refine c74 _ (by rw [List.length_take]; omega) ?_
      unfold shB
      rw [if_pos (by omega), if_neg (by omega), List.append_nil]
theorem t45 {a : Nat} {al : Bool} (h : RC c ℓ Es D r n) (ha : yP c r 5 = some a) (haK : yK c a = 7) (hal : ℓ a = (r, 5)) (hz : yT c a = []) (hQ : Q (Sum.inl none) (wT c a (lgB D al n))) : CW g B O 45 0 [some (.ref r), some (.int (iI (if al = true then 1 else 0)))] [] c Q := by
  obtain ⟨p, p1, p2, p3⟩ := h.pv
  have ht := val_ok h.1 n 0
  have hy := val_ok h.1 n 2
  have hk := (h.1.2.2.1 n).1
  have hn := np40 ht.1
  have htx := tx_l
  obtain ⟨e1, e2⟩ := h.ent
  obtain ⟨ky, k1, k2, k3, k4⟩ := (h.2.1.2 n h.2.2.1).2.1
  obtain ⟨-, -, -, i1, i2, i3⟩ := h.2.2.2.2
  obtain ⟨x4, y41, y42, y43⟩ := h.slot 4 (Or.inr (Or.inr (Or.inl rfl)))
  rw [show ((4 : Nat) : Int) = 4 from rfl, i2] at y41
  cases y41
  have i1a : ¬ i1 = a := lne y43 hal (by simp)
  have il := inits_len (ws := gv (val D n 0) 0)
  have kg := (gv_K (val D n 0) 0).len
  have nl0 := nm_len (val D n 0) 0
  have nl1 := nm_len (val D n 0) 1
  have wp0 := (pa_K (val D n 0) 0).1
  have wf0 := (fa_K (val D n 0) 0).1
  have wp1 := (pa_K (val D n 0) 1).1
  have wf1 := (fa_K (val D n 0) 1).1
  have hal01 : (0 : Int) ≤ (if al = true then 1 else 0) ∧ (if al = true then (1 : Int) else 0) ≤ 1 := by split <;> omega
  have h5 : ∀ Z, RC (wT c a Z) ℓ Es D r n := fun Z => h.out hal (Or.inr (Or.inl rfl))
  have hp : ∀ Z, PV (wT c a Z) p (val D n 0) := fun Z => p2.out (p3 a 5 hal)
  unfold lgB at hQ
  have c129 : ∀ Z : List Int, Z.length ≤ 800 → (Q (Sum.inl none) (wT c a (Z ++ (if val D n 2 = [] then [] else 32 :: val D n 2)))) → ∀ {l1 : Option Value}, CW g B O 45 129 [some (.ref r), l1] [] (wT c a Z) Q := fun Z hZ hq l1 => by
    have h' := h5 Z
    refine c45_129 ⟨h.rk, _, e1, e2, t2 (f := 2) h'.1 h'.2.1 h'.2.2.1 (by decide) (fun q => c45_137 ⟨fun s => by omega, fun _ => ⟨h.rk, a, ha, haK, by decide, by rw [yT_wT]; omega, fun d ed => ?_⟩⟩) (fun q => c45_137 ⟨fun _ => c45_164 ?_, fun s => absurd rfl s⟩)⟩
    · rw [yT_wT, wT_wT] at ed
      subst ed
      have h'' := h5 (Z ++ [32])
      rw [if_neg q] at hq
      refine ⟨h.rk, a, ha, h.rk, _, e1, e2, t3 (f := 2) h''.1 h''.2.1 h''.2.2.1 (by decide) (fun w w1 w2 w3 => c45_161 ⟨haK, w1, by rw [yT_wT, w2, List.length_append]; show _ + 1 + _ ≤ _; omega, fun d ed => c45_164 ?_⟩)⟩
      rw [w2, yT_wT, wT_wT, List.append_assoc] at ed
      rw [ed]; exact hq
    · rw [if_pos q, List.append_nil] at hq
      exact hq
  have c74 : ∀ Z : List Int, Z.length ≤ 400 → Q (Sum.inl none) (wT c a (Z ++ (if np (val D n 0) = 2 then tx 1 ++ nm (val D n 0) 1 else if 2 < np (val D n 0) then tx 2 else []) ++ (if val D n 2 = [] then [] else 32 :: val D n 2))) → ∀ {l1 : Option Value}, CW g B O 45 74 [some (.ref r), l1] [] (wT c a Z) Q := fun Z hZ hq l1 => by
    have hpZ := hp Z
    have hnp := hpZ.2.1
    refine c45_74 ⟨h.rk, p, p1, hpZ.1.1, t19 hpZ.1.1 ?_⟩
    rw [hnp]
    refine c45_81 ⟨fun q => ⟨h.rk, p, p1, hpZ.1.1, t19 hpZ.1.1 ?_⟩, fun q => ⟨h.rk, a, ha, haK, by decide, by rw [yT_wT]; omega, fun d ed => ?_⟩⟩
    · rw [hnp]
      rw [if_neg (by omega)] at hq
      refine c45_116 ⟨fun q1 => c129 Z (by omega) ?_, fun q1 => ⟨h.rk, a, ha, haK, by decide, by rw [yT_wT]; omega, fun d ed => ?_⟩⟩
      · rw [if_neg (by omega), List.append_nil] at hq; exact hq
      · rw [if_pos (by omega)] at hq
        rw [yT_wT, wT_wT] at ed
        rw [ed]
        exact c129 _ (by rw [List.length_append]; omega) hq
    · rw [if_pos (by omega)] at hq
      rw [yT_wT, wT_wT] at ed
      subst ed
      have hp2 := hp (Z ++ tx 1)
      refine ⟨h.rk, p, p1, h.rk, a, ha, hp2.1.1, t31 (i := 1) hp2 (by omega) ht.1 haK (p3 a 5 hal) (by rw [yT_wT, List.length_append]; omega) ?_⟩
      rw [yT_wT, wT_wT, List.append_assoc]
      exact c45_106 (c129 _ (by rw [List.length_append, List.length_append]; omega) hq)
  refine c45_0 ⟨h.rk, p, p1, p2.1.1, t19 p2.1.1 ?_⟩ (hx1 := by omega)
  have hnp := p2.2.1
  rw [hnp]
  have c0 : wT c a [] = c := by rw [← hz, wT_self]
  have c62 : ∀ Z : List Int, Z.length ≤ 130 → 0 < np (val D n 0) → Q (Sum.inl none) (wT c a (Z ++ nm (val D n 0) 0 ++ (if np (val D n 0) = 2 then tx 1 ++ nm (val D n 0) 1 else if 2 < np (val D n 0) then tx 2 else []) ++ (if val D n 2 = [] then [] else 32 :: val D n 2))) → ∀ {l1 : Option Value}, CW g B O 45 62 [some (.ref r), l1] [] (wT c a Z) Q := fun Z hZ hn0 hq l1 => by
    have hpZ := hp Z
    refine c45_62 ⟨h.rk, p, p1, h.rk, a, ha, hpZ.1.1, t31 (i := 0) hpZ hn0 ht.1 haK (p3 a 5 hal) (by rw [yT_wT]; omega) ?_⟩
    rw [yT_wT, wT_wT]
    exact c74 _ (by rw [List.length_append]; omega) hq
  refine c45_7 ⟨fun q => ?_, fun q => ?_⟩ (hx1 := by omega)
  · rw [if_neg (by omega)] at hQ
    refine ⟨fun q1 => ?_, fun q1 => ⟨h.rk, p, p1, p2.1.1, t30 (i := 0) p2 (by omega) (by omega) (fun q2 => c45_39 ⟨fun s => by omega, fun _ => ?_⟩) (fun q2 => c45_39 ⟨fun _ => ?_, fun s => absurd rfl s⟩)⟩⟩
    · have hf : ¬ al = true := fun s => by rw [if_pos s] at q1; omega
      rw [if_neg (fun s => hf s.1)] at hQ
      have := c62 [] (Nat.zero_le _) (by omega) hQ (l1 := some (.int (iI (if al = true then 1 else 0))))
      rw [c0] at this
      exact this
    · have hf : al = true := Decidable.of_not_not fun s => by rw [if_neg s] at q1; exact q1 rfl
      rw [if_pos ⟨hf, q2⟩] at hQ
      have hini : yT c i1 = inits (gv (val D n 0) 0) := by rw [i3]; unfold iniT; rw [if_neg (by omega)]
      refine ⟨h.rk, a, ha, h.rk, i1, i2, haK, y42, by rw [hz, hini]; show 0 + _ ≤ _; omega, fun d ed => ?_⟩
      rw [hz, hini, List.nil_append] at ed
      subst ed
      refine ⟨h.rk, a, ha, haK, by decide, by rw [yT_wT]; omega, fun d2 ed2 => ?_⟩
      rw [yT_wT, wT_wT] at ed2
      rw [ed2]
      exact c62 _ (by rw [List.length_append]; show _ + 1 ≤ _; omega) (by omega) hQ
    · rw [if_neg (fun s => s.2 q2)] at hQ
      have := c62 [] (Nat.zero_le _) (by omega) hQ (l1 := some (.int (iI (if al = true then 1 else 0))))
      rw [c0] at this
      exact this
  · rw [if_pos (by omega)] at hQ
    refine ⟨h.rk, a, ha, h.rk, _, e1, e2, ky, k1, haK, k2, by rw [hz, k4]; show 0 + _ ≤ _; omega, fun d ed => ?_⟩
    rw [hz, k4, List.nil_append] at ed
    rw [ed]
    exact c74 _ (by omega) hQ
/-- setBase -/
theorem t43 {a : Nat} {lb : Int} {al : Bool} (h : RC c ℓ Es D r n) (ha : yP c r 5 = some a) (haK : yK c a = 7) (hal : ℓ a = (r, 5)) (hlb : 0 ≤ lb ∧ lb ≤ 2) (hQ : Q (Sum.inl none) (wT c a (if lb = 1 then shB D n else if lb = 2 then lgB D al n else []))) : CW g B O 43 0 [some (.ref r), some (.int (iI lb)), some (.int (iI (if al = true then 1 else 0)))] [] c Q := by
  have hal01 : (0 : Int) ≤ (if al = true then 1 else 0) ∧ (if al = true then (1 : Int) else 0) ≤ 1 := by split <;> omega
  refine c43_0 ⟨h.rk, a, ha, haK, fun d ed => ?_⟩ (hx2 := by omega)
  subst ed
  have h' := h.out (l := []) hal (Or.inr (Or.inl rfl))
  refine ⟨fun q => ⟨fun q1 => c43_29 ?_, fun q1 => ⟨h.rk, t45 h' ha haK hal (yT_wT _ _ _) ?_⟩⟩, fun q => ⟨h.rk, t44 h' ha haK hal (yT_wT _ _ _) (c43_16 (c43_29 ?_))⟩⟩
  · rw [if_neg q, if_neg q1] at hQ; exact hQ
  · rw [if_neg q, if_pos q1] at hQ
    rw [wT_wT]
    exact c43_29 hQ
  · rw [if_pos q] at hQ
    rw [wT_wT]
    exact hQ
theorem t48 {a : Nat} {lab X : List Int} (hr : yK c r = 6) (ha : yP c r 7 = some a) (haK : yK c a = 7) (hT : yT c a = lab ++ X) (hl : lab.length + X.length + 2 ≤ 1024) (hQ : Q (Sum.inl none) (wT c a (lab ++ X ++ (if X = [] then [32] else [46, 32])))) : CW g B O 48 0 [some (.ref r), some (.int (iI lab.length))] [] c Q := by
  obtain ⟨s3, s4, -⟩ := tx_s
  have hlen : ((yT c a).length : Int) = lab.length + X.length := by rw [hT, List.length_append]; omega
  refine c48_0 ⟨hr, a, ha, hr, a, ha, haK, fun q => c48_22 ⟨haK, by decide, by rw [hT, List.length_append, s4]; show _ + 1 ≤ _; omega, fun d ed => ?_⟩, fun q => c48_22 ⟨haK, by decide, by rw [hT, List.length_append, s3]; show _ + 2 ≤ _; omega, fun d ed => ?_⟩⟩
  · rw [if_pos (List.eq_nil_of_length_eq_zero (by omega))] at hQ
    rw [hT, s4] at ed
    rw [ed]; exact hQ
  · rw [if_neg (fun s => by rw [s] at hlen; have hlen : ((yT c a).length : Int) = lab.length + ((0 : Nat) : Int) := hlen; omega)] at hQ
    rw [hT, s3] at ed
    rw [ed]; exact hQ
theorem t49 {a f j : Nat} {lab X : List Int} (h : RC c ℓ Es D r n) (ha : yP c r 7 = some a) (haK : yK c a = 7) (hal : ℓ a = (r, 7)) (hf : f < 8) (hj : j = 6 ∨ j = 7) (hT : yT c a = lab ++ X) (hl : lab.length + X.length ≤ 900) (hQ : Q (Sum.inl none) (wT c a (lab ++ if val D n f = [] then X else pce X (tx j ++ val D n f)))) : CW g B O 49 0 [some (.ref r), some (.int (iI f)), some (.ref (g (100 + j))), some (.int (iI lab.length))] [] c Q := by
  have hv := (val_ok h.1 n f).1
  obtain ⟨e1, e2⟩ := h.ent
  have htx := tx_l
  have hts := tx_s
  have hjl : (tx j).length ≤ 4 := by
    rcases hj with q | q
    · rw [q, hts.2.2.1]; exact Nat.zero_le _
    · rw [q]; omega
  have hsl := sg_l (X := X)
  refine c49_0 ⟨h.rk, _, e1, e2, t2 h.1 h.2.1 h.2.2.1 hf (fun q => c49_8 ⟨fun s => by omega, fun _ => ⟨h.rk, t48 h.rk ha haK hT (by omega) (c49_16 ?_)⟩⟩) (fun q => c49_8 ⟨fun _ => c49_39 ?_, fun s => absurd rfl s⟩)⟩
  · rw [if_neg q] at hQ
    refine ⟨h.rk, a, ha, haK, by omega, by rw [yT_wT, List.length_append, List.length_append]; omega, fun d ed => ?_⟩
    rw [yT_wT, wT_wT] at ed
    subst ed
    have h' := h.out (l := lab ++ X ++ (if X = [] then [32] else [46, 32]) ++ tx j) hal (Or.inr (Or.inr rfl))
    refine ⟨h.rk, a, ha, h.rk, _, e1, e2, t3 h'.1 h'.2.1 h'.2.2.1 hf (fun w w1 w2 w3 => c49_36 ⟨haK, w1, by rw [yT_wT, w2, List.length_append, List.length_append, List.length_append]; omega, fun d ed => c49_39 ?_⟩)⟩
    rw [w2, yT_wT, wT_wT] at ed
    rw [ed]
    unfold pce at hQ
    simpa using hQ
  · rw [if_pos q, ← hT, wT_self] at hQ
    exact hQ
theorem t51 {a f j : Nat} (h : RC c ℓ Es D r n) (ha : yP c r 7 = some a) (haK : yK c a = 7) (hal : ℓ a = (r, 7)) (hf : f < 8) (hj : j = 5 ∨ j = 8) (hl : (yT c a).length ≤ 930) (hQ : Q (Sum.inl none) (wT c a (yT c a ++ if val D n f = [] then [] else if val D n 5 = [] then [] else tx j ++ val D n 5))) : CW g B O 51 0 [some (.ref r), some (.int (iI f)), some (.ref (g (100 + j)))] [] c Q := by
  have hv := (val_ok h.1 n 5).1
  obtain ⟨e1, e2⟩ := h.ent
  have htx := tx_l
  have hjl : (tx j).length ≤ 6 := by rcases hj with q | q <;> rw [q] <;> omega
  refine c51_0 ⟨h.rk, _, e1, e2, t2 h.1 h.2.1 h.2.2.1 hf (fun q => c51_8 ⟨fun s => by omega, fun _ => ⟨h.rk, _, e1, e2, t2 (f := 5) h.1 h.2.1 h.2.2.1 (by decide) (fun q1 => c51_19 ⟨fun s => by omega, fun _ => ⟨h.rk, a, ha, haK, by omega, by omega, fun d ed => ?_⟩⟩) (fun q1 => c51_19 ⟨fun _ => c51_45 ?_, fun s => absurd rfl s⟩)⟩⟩) (fun q => c51_8 ⟨fun _ => c51_45 ?_, fun s => absurd rfl s⟩)⟩
  · rw [if_neg q, if_neg q1] at hQ
    subst ed
    have h' := h.out (l := yT c a ++ tx j) hal (Or.inr (Or.inr rfl))
    refine ⟨h.rk, a, ha, h.rk, _, e1, e2, t3 (f := 5) h'.1 h'.2.1 h'.2.2.1 (by decide) (fun w w1 w2 w3 => c51_42 ⟨haK, w1, by rw [yT_wT, w2, List.length_append]; omega, fun d ed => c51_45 ?_⟩)⟩
    rw [w2, yT_wT, wT_wT, List.append_assoc] at ed
    rw [ed]; exact hQ
  · rw [if_neg q, if_pos q1, List.append_nil, wT_self] at hQ
    exact hQ
  · rw [if_pos q, List.append_nil, wT_self] at hQ
    exact hQ
theorem t50 {a : Nat} {lab X : List Int} (h : RC c ℓ Es D r n) (ha : yP c r 7 = some a) (haK : yK c a = 7) (hal : ℓ a = (r, 7)) (hT : yT c a = lab ++ X) (hl : lab.length + X.length ≤ 700) (hQ : Q (Sum.inl none) (wT c a (lab ++ thd D n X))) : CW g B O 50 0 [some (.ref r), some (.int (iI lab.length))] [] c Q := by
  obtain ⟨e1, e2⟩ := h.ent
  have hK := (h.2.1.2 n h.2.2.1).1.2.2.2.1
  have hk4 := h.1.2.1 n h.2.2.1
  have hts := tx_s
  have htx := tx_l
  have v3 := (val_ok h.1 n 3).1
  have v6 := (val_ok h.1 n 6).1
  unfold thd at hQ
  rw [← hK] at hQ hk4
  refine c50_0 ⟨h.rk, _, e1, e2, fun q => ⟨h.rk, _, e1, e2, fun q1 => ⟨h.rk, _, e1, e2, fun q2 => c50_77 ⟨h.rk, t49 (f := 4) h ha haK hal (by decide) (Or.inl rfl) hT (by omega) (c50_83 ?_)⟩, fun q2 => c50_77 ⟨h.rk, t49 (f := 7) h ha haK hal (by decide) (Or.inl rfl) hT (by omega) (c50_83 ?_)⟩⟩, fun q1 => ⟨h.rk, t49 (f := 6) h ha haK hal (by decide) (Or.inr rfl) hT (by omega) ?_⟩⟩, fun q => ⟨h.rk, t49 (f := 3) h ha haK hal (by decide) (Or.inl rfl) hT (by omega) ?_⟩⟩
  · rw [if_neg q, if_neg q1, if_neg q2] at hQ
    rw [hts.2.2.1, List.nil_append]
    exact hQ
  · rw [if_neg q, if_neg q1, if_pos q2] at hQ
    rw [hts.2.2.1, List.nil_append]
    exact hQ
  · rw [if_neg q, if_pos q1] at hQ
    have h' := h.out (l := lab ++ if val D n 6 = [] then X else pce X (tx 7 ++ val D n 6)) hal (Or.inr (Or.inr rfl))
    refine c50_48 ⟨h.rk, t51 (f := 6) h' ha haK hal (by decide) (Or.inr rfl) ?_ (c50_56 (c50_83 ?_))⟩
    · rw [yT_wT, List.length_append]
      split
      · omega
      · have := pce_len (X := X) (P := tx 7 ++ val D n 6)
        rw [List.length_append] at this
        omega
    · rw [yT_wT, wT_wT]
      by_cases s : val D n 6 = []
      · rw [if_pos s, if_pos s, List.append_nil]
        rw [if_pos s] at hQ
        exact hQ
      · rw [if_neg s, if_neg s, List.append_assoc]
        rw [if_neg s] at hQ
        exact hQ
  · rw [if_pos q] at hQ
    have h' := h.out (l := lab ++ if val D n 3 = [] then X else pce X (tx 6 ++ val D n 3)) hal (Or.inr (Or.inr rfl))
    refine c50_18 ⟨h.rk, t51 (f := 3) h' ha haK hal (by decide) (Or.inl rfl) ?_ (c50_25 (c50_83 ?_))⟩
    · rw [yT_wT, List.length_append, hts.2.2.1, List.nil_append]
      split
      · omega
      · have := pce_len (X := X) (P := val D n 3)
        omega
    · rw [yT_wT, wT_wT, hts.2.2.1, List.nil_append]
      by_cases s : val D n 3 = []
      · rw [if_pos s, if_pos s, List.append_nil]
        rw [if_pos s] at hQ
        exact hQ
      · rw [if_neg s, if_neg s, List.append_assoc]
        rw [if_neg s] at hQ
        exact hQ
theorem t47 {a b : Nat} {lb : Int} {k l : Nat} {bs : List Int} (hr : yK c r = 6) (ha : yP c r 7 = some a) (haK : yK c a = 7) (hb : yP c r 5 = some b) (hbK : yK c b = 7) (hab : ¬ b = a) (hbT : yT c b = bs) (hlb : 0 ≤ lb ∧ lb ≤ 2) (hb0 : lb = 0 → bs = [] ∧ l = 0) (hk : k ≤ 24) (hbl : bs.length ≤ 300) (hl6 : yI c r 6 = l) (hl24 : l ≤ 24) (hz : yT c a = []) (hQ : Q (Sum.inl none) (wT c a (lbl lb k bs l))) : CW g B O 47 0 [some (.ref r), some (.int (iI lb)), some (.int (iI k))] [] c Q := by
  unfold lbl at hQ
  have c76 : ∀ Z : List Int, Z.length ≤ 400 → lbl lb k bs l = Z ++ [if lb = 2 then 41 else 93] → ∀ {l2 : Option Value}, CW g B O 47 76 [some (.ref r), some (.int (iI lb)), l2] [] (wT c a Z) Q := fun Z hZ he l2 => by
    unfold lbl at he
    rw [he] at hQ
    refine c47_76 ⟨hr, a, ha, fun q => c47_92 ⟨haK, by decide, by rw [yT_wT]; omega, fun d ed => ?_⟩, fun q => c47_92 ⟨haK, by decide, by rw [yT_wT]; omega, fun d ed => ?_⟩⟩
    · rw [yT_wT, wT_wT] at ed
      rw [if_neg q] at hQ
      rw [ed]; exact hQ
    · rw [yT_wT, wT_wT] at ed
      rw [if_pos q] at hQ
      rw [ed]; exact hQ
  have c29 : ∀ o : Int, o = (if lb = 2 then 40 else 91) → ¬ lb = 0 → ∀ {l2 : Option Value}, CW g B O 47 29 [some (.ref r), some (.int (iI lb)), l2] [] (wT c a [o]) Q := fun o ho h0 l2 => by
    refine c47_29 ⟨hr, a, ha, hr, b, hb, haK, hbK, ?_, fun d ed => ?_⟩
    · rw [yT_wT, yT_wT_ne hab, hbT]; show 1 + _ ≤ _; omega
    · rw [yT_wT, yT_wT_ne hab, hbT, wT_wT] at ed
      subst ed
      have e6 : yI (wT c a ([o] ++ bs)) r 6 = (l : Int) := hl6
      rw [e6]
      refine ⟨hr, fun q => c76 _ (by rw [List.length_append]; show 1 + _ ≤ _; omega) ?_, fun q => ⟨hr, a, ha, hr, by omega, by omega, haK, by omega, by rw [yT_wT, List.length_append]; show 1 + _ < _; omega, fun d ed => ?_⟩⟩
      · unfold lbl
        rw [if_neg h0, if_pos (show l = 0 by omega), ← ho]
        simp
      · rw [yT_wT, wT_wT, show (97 : Int) + (l : Int) - 1 = 96 + (l : Int) by omega] at ed
        rw [ed]
        refine c76 _ (by rw [List.length_append, List.length_append]; show 1 + _ + 1 ≤ _; omega) ?_
        unfold lbl
        rw [if_neg h0, if_neg (show ¬ l = 0 by omega), ← ho]
        simp
  have c16 : ∀ o : Int, (0 ≤ o ∧ o ≤ 255) → o = (if lb = 2 then 40 else 91) → CW g B O 47 16 [some (.ref r), some (.int (iI lb)), some (.int (iI k))] [.int (iI o), .ref a] c Q := fun o hoR ho => by
    refine c47_16 ⟨haK, by omega, by rw [hz]; show 0 < 1024; omega, fun d ed => ?_⟩
    rw [hz, List.nil_append] at ed
    subst ed
    refine ⟨fun q => c29 o ho (by omega), fun q => ⟨fun q1 => ⟨hr, a, ha, by omega, haK, by omega, by rw [yT_wT]; show 1 + 2 ≤ 1024; omega, fun d ed => ?_⟩, fun q1 => c29 o ho (by omega)⟩⟩
    rw [yT_wT, wT_wT] at ed
    rw [ed]
    have h0 : lb = 0 := by omega
    obtain ⟨b1, b2⟩ := hb0 h0
    refine c76 _ (by rw [List.length_append]; have := nmb_len (x := (k : Int) + 1); show 1 + _ ≤ _; omega) ?_
    unfold lbl
    rw [if_pos h0, if_pos b2, b1, ← ho]
    simp
  refine c47_0 ⟨hr, a, ha, fun q => c16 91 (by decide) (by rw [if_neg q]), fun q => c16 40 (by decide) (by rw [if_pos q])⟩
theorem t46 {a b : Nat} {lb : Int} {k l : Nat} {bs : List Int} (h : RC c ℓ Es D r n) (ha : yP c r 7 = some a) (haK : yK c a = 7) (hal : ℓ a = (r, 7)) (hb : yP c r 5 = some b) (hbK : yK c b = 7) (hbl' : ℓ b = (r, 5)) (hbT : yT c b = bs) (hlb : 0 ≤ lb ∧ lb ≤ 2) (hb0 : lb = 0 → bs = [] ∧ l = 0) (hk : k ≤ 24) (hbl : bs.length ≤ 300) (hl6 : yI c r 6 = l) (hl24 : l ≤ 24) (hQ : Q (Sum.inl none) (wT c a (txt D lb k bs l n))) : CW g B O 46 0 [some (.ref r), some (.int (iI lb)), some (.int (iI k)), none] [] c Q := by
  obtain ⟨p, p1, p2, p3⟩ := h.pv
  have ht := val_ok h.1 n 0
  have hn := np40 ht.1
  have v1 := (val_ok h.1 n 1).1
  have v2 := (val_ok h.1 n 2).1
  have hts := tx_s
  have hll := lbl_len lb k bs l
  have hab : ¬ b = a := lne hbl' hal (by simp)
  have hpl := psn_len ht.1
  unfold txt pcs at hQ
  refine c46_0 ⟨h.rk, a, ha, haK, fun d ed => ?_⟩
  subst ed
  refine ⟨h.rk, t47 h.rk ha haK hb hbK hab (by rw [yT_wT_ne hab]; exact hbT) hlb hb0 hk hbl hl6 hl24 (yT_wT _ _ _) ?_⟩
  rw [wT_wT]
  generalize lbl lb k bs l = lab at *
  have hp : ∀ Z, PV (wT c a Z) p (val D n 0) := fun Z => p2.out (p3 a 7 hal)
  have h7 : ∀ Z, RC (wT c a Z) ℓ Es D r n := fun Z => h.out hal (Or.inr (Or.inr rfl))
  have hX0 : (if np (val D n 0) = 0 then [] else pce [] (psn (val D n 0))).length ≤ 162 := by
    split
    · show 0 ≤ 162; omega
    · have := pce_len (X := []) (P := psn (val D n 0))
      have : (pce [] (psn (val D n 0))).length ≤ 0 + 2 + (psn (val D n 0)).length := this
      omega
  generalize hX : (if np (val D n 0) = 0 then [] else pce [] (psn (val D n 0))) = X0 at *
  have pv_ : ∀ (X Y : List Int), (if Y = [] then X else pce X (tx 6 ++ Y)) = pcV X Y := fun X Y => by
    unfold pcV
    rw [hts.2.2.1, List.nil_append]
  have l1 := pcV_len (X := X0) (P := val D n 1)
  have l2 := thd_len h.1 n (pcV X0 (val D n 1))
  have l3 := pcV_len (X := thd D n (pcV X0 (val D n 1))) (P := val D n 2)
  have c47' : ∀ {l1 l2 : Option Value}, CW g B O 46 47 [some (.ref r), l1, l2, some (.int (iI lab.length))] [] (wT c a (lab ++ X0)) Q := fun {l1 l2} => by
    refine c46_47 ⟨h.rk, t49 (f := 1) (h7 _) ha haK hal (by decide) (Or.inl rfl) (yT_wT _ _ _) (by omega) ?_⟩
    rw [pv_, wT_wT]
    refine c46_55 ⟨h.rk, t50 (h7 _) ha haK hal (yT_wT _ _ _) (by omega) ?_⟩
    rw [wT_wT]
    refine c46_60 ⟨h.rk, t49 (f := 2) (h7 _) ha haK hal (by decide) (Or.inl rfl) (yT_wT _ _ _) (by omega) ?_⟩
    rw [pv_, wT_wT]
    generalize pcV (thd D n (pcV X0 (val D n 1))) (val D n 2) = Z at *
    refine c46_68 ⟨h.rk, a, ha, haK, fun q => c46_88 ?_, fun q => ⟨h.rk, a, ha, haK, by decide, ?_, fun d ed => c46_88 ?_⟩⟩
    · rw [yT_wT, List.length_append] at q
      rw [if_pos (List.eq_nil_of_length_eq_zero (by omega)), List.append_nil] at hQ
      exact hQ
    · rw [yT_wT, List.length_append]; omega
    · rw [yT_wT, List.length_append] at q
      rw [if_neg (fun s => by rw [s] at q; have q : (lab.length : Int) < ((lab.length + 0 : Nat) : Int) := q; omega)] at hQ
      rw [yT_wT, wT_wT] at ed
      rw [ed]; exact hQ
  have hp0 := hp lab
  refine c46_13 ⟨h.rk, a, ha, haK, h.rk, p, p1, hp0.1.1, t19 hp0.1.1 ?_⟩
  have hnp := hp0.2.1
  rw [hnp, yT_wT]
  refine c46_28 ⟨fun q => ?_, fun q => ⟨h.rk, t48 (lab := lab) (X := []) h.rk ha haK (by rw [yT_wT, List.append_nil]) (by show _ + 0 + 2 ≤ _; omega) ?_⟩⟩
  · rw [if_pos (by omega)] at hX
    have := c47' (l1 := some (.int (iI lb))) (l2 := clr (some (.int (iI k))))
    rw [← hX, List.append_nil] at this
    exact this
  · rw [if_neg (by omega)] at hX
    rw [if_pos rfl, List.append_nil, wT_wT]
    have hp1 := hp (lab ++ [32])
    refine c46_36 ⟨h.rk, p, p1, h.rk, a, ha, hp1.1.1, t36 hp1 ht.1 haK (p3 a 7 hal) (by omega) (by rw [yT_wT, List.length_append]; show _ + 1 ≤ _; omega) ?_⟩
    rw [yT_wT, wT_wT]
    have := c47' (l1 := some (.int (iI lb))) (l2 := clr (some (.int (iI k))))
    rw [← hX] at this
    unfold pce at this
    rw [if_pos rfl, List.nil_append, ← List.append_assoc] at this
    exact this
end CRow2
