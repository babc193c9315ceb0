theorem b38_0 {g : Nat → Nat} {C S : Nat} {σ : PS} {Q : Rs → PS → Prop} {r0 : Nat} {r1 : Nat}
    (h : zN σ + 1 ≤ C ∧ zS σ + 7 ≤ S ∧ (∀ τ1, τ1 = alO σ 5 7 → WP g C S 18 0 [some (.ref (zN σ))] [] τ1 (KK g C S 38 12 [some (.ref r0), some (.ref r1)] [.ref (zN σ), .ref r0] Q false))) :
    WP g C S 38 0 [some (.ref r0), some (.ref r1)] [] σ Q := by
  refine r_g (pc' := 1) (ls' := [some (.ref r0), some (.ref r1)]) (st' := [.ref r0]) dX4_init_0 (fun _ => rfl) ?_
  refine r_oi dX4_init_1 rfl ⟨Nat.le_of_ble_eq_true rfl, Nat.le_of_ble_eq_true rfl, Nat.le_of_ble_eq_true rfl⟩ ?_
  refine r_g (pc' := 5) (ls' := [some (.ref r0), some (.ref r1)]) (st' := [.ref r0]) dX4_init_4 (fun _ => rfl) ?_
  obtain ⟨hC, hS, h⟩ := h
  refine r_new (N := 7) dX4_init_5 rfl (by decide) rfl hC hS ?_
  generalize eτ1 : alO σ (4 + 1) 7 = τ1
  replace h := h _ eτ1.symm
  refine r_g (pc' := 9) (ls' := [some (.ref r0), some (.ref r1)]) (st' := [.ref (zN σ), .ref (zN σ), .ref r0]) dX4_init_8 (fun _ => rfl) ?_
  exact r_call (th := false) dX4_init_9 (fun _ => ex_calI rfl (by decide)) rfl (Nat.le_of_ble_eq_true rfl) (Nat.le_of_ble_eq_true rfl) (Nat.le_of_ble_eq_true rfl) rfl rfl rfl rfl (fun q => nomatch q) h
theorem b38_12 {g : Nat → Nat} {C S : Nat} {σ : PS} {Q : Rs → PS → Prop} {r0 : Nat} {r1 : Nat} {w0 : Nat} {w1 : Nat}
    (h : zK σ w1 = 6 ∧ (∀ τ1, τ1 = stP σ w1 1 (some w0) → zN τ1 + 1 ≤ C ∧ zS τ1 + 2 ≤ S ∧ (∀ τ2, τ2 = alO τ1 7 2 → WP g C S 52 0 [some (.ref (zN τ1))] [] τ2 (KK g C S 38 23 [some (.ref r0), some (.ref r1)] [.ref (zN τ1), .ref r0] Q false)))) :
    WP g C S 38 12 [some (.ref r0), some (.ref r1)] [.ref w0, .ref w1] σ Q := by
  obtain ⟨hK, h⟩ := h
  refine r_putP dX4_init_12 rfl (by decide) (Or.inr ⟨rfl, rfl⟩) rfl hK ?_
  generalize eτ1 : stP σ w1 1 (some w0) = τ1
  replace h := h _ eτ1.symm
  refine r_g (pc' := 16) (ls' := [some (.ref r0), some (.ref r1)]) (st' := [.ref r0]) dX4_init_15 (fun _ => rfl) ?_
  obtain ⟨hC, hS, h⟩ := h
  refine r_new (N := 2) dX4_init_16 rfl (by decide) rfl hC hS ?_
  generalize eτ2 : alO τ1 (6 + 1) 2 = τ2
  replace h := h _ eτ2.symm
  refine r_g (pc' := 20) (ls' := [some (.ref r0), some (.ref r1)]) (st' := [.ref (zN τ1), .ref (zN τ1), .ref r0]) dX4_init_19 (fun _ => rfl) ?_
  exact r_call (th := false) dX4_init_20 (fun _ => ex_calI rfl (by decide)) rfl (Nat.le_of_ble_eq_true rfl) (Nat.le_of_ble_eq_true rfl) (Nat.le_of_ble_eq_true rfl) rfl rfl rfl rfl (fun q => nomatch q) h
theorem b38_23 {g : Nat → Nat} {C S : Nat} {σ : PS} {Q : Rs → PS → Prop} {r0 : Nat} {r1 : Nat} {w0 : Nat} {w1 : Nat}
    (h : zK σ w1 = 6 ∧ (∀ τ1, τ1 = stP σ w1 2 (some w0) → zN τ1 + 1 ≤ C ∧ zS τ1 + 2 ≤ S ∧ (∀ τ2, τ2 = alO τ1 7 2 → WP g C S 52 0 [some (.ref (zN τ1))] [] τ2 (KK g C S 38 34 [some (.ref r0), some (.ref r1)] [.ref (zN τ1), .ref r0] Q false)))) :
    WP g C S 38 23 [some (.ref r0), some (.ref r1)] [.ref w0, .ref w1] σ Q := by
  obtain ⟨hK, h⟩ := h
  refine r_putP dX4_init_23 rfl (by decide) (Or.inr ⟨rfl, rfl⟩) rfl hK ?_
  generalize eτ1 : stP σ w1 2 (some w0) = τ1
  replace h := h _ eτ1.symm
  refine r_g (pc' := 27) (ls' := [some (.ref r0), some (.ref r1)]) (st' := [.ref r0]) dX4_init_26 (fun _ => rfl) ?_
  obtain ⟨hC, hS, h⟩ := h
  refine r_new (N := 2) dX4_init_27 rfl (by decide) rfl hC hS ?_
  generalize eτ2 : alO τ1 (6 + 1) 2 = τ2
  replace h := h _ eτ2.symm
  refine r_g (pc' := 31) (ls' := [some (.ref r0), some (.ref r1)]) (st' := [.ref (zN τ1), .ref (zN τ1), .ref r0]) dX4_init_30 (fun _ => rfl) ?_
  exact r_call (th := false) dX4_init_31 (fun _ => ex_calI rfl (by decide)) rfl (Nat.le_of_ble_eq_true rfl) (Nat.le_of_ble_eq_true rfl) (Nat.le_of_ble_eq_true rfl) rfl rfl rfl rfl (fun q => nomatch q) h
theorem b38_34 {g : Nat → Nat} {C S : Nat} {σ : PS} {Q : Rs → PS → Prop} {r0 : Nat} {r1 : Nat} {w0 : Nat} {w1 : Nat}
    (h : zK σ w1 = 6 ∧ (∀ τ1, τ1 = stP σ w1 3 (some w0) → zN τ1 + 1 ≤ C ∧ zS τ1 + 2 ≤ S ∧ (∀ τ2, τ2 = alO τ1 7 2 → WP g C S 52 0 [some (.ref (zN τ1))] [] τ2 (KK g C S 38 45 [some (.ref r0), some (.ref r1)] [.ref (zN τ1), .ref r0] Q false)))) :
    WP g C S 38 34 [some (.ref r0), some (.ref r1)] [.ref w0, .ref w1] σ Q := by
  obtain ⟨hK, h⟩ := h
  refine r_putP dX4_init_34 rfl (by decide) (Or.inr ⟨rfl, rfl⟩) rfl hK ?_
  generalize eτ1 : stP σ w1 3 (some w0) = τ1
  replace h := h _ eτ1.symm
  refine r_g (pc' := 38) (ls' := [some (.ref r0), some (.ref r1)]) (st' := [.ref r0]) dX4_init_37 (fun _ => rfl) ?_
  obtain ⟨hC, hS, h⟩ := h
  refine r_new (N := 2) dX4_init_38 rfl (by decide) rfl hC hS ?_
  generalize eτ2 : alO τ1 (6 + 1) 2 = τ2
  replace h := h _ eτ2.symm
  refine r_g (pc' := 42) (ls' := [some (.ref r0), some (.ref r1)]) (st' := [.ref (zN τ1), .ref (zN τ1), .ref r0]) dX4_init_41 (fun _ => rfl) ?_
  exact r_call (th := false) dX4_init_42 (fun _ => ex_calI rfl (by decide)) rfl (Nat.le_of_ble_eq_true rfl) (Nat.le_of_ble_eq_true rfl) (Nat.le_of_ble_eq_true rfl) rfl rfl rfl rfl (fun q => nomatch q) h
theorem b38_45 {g : Nat → Nat} {C S : Nat} {σ : PS} {Q : Rs → PS → Prop} {r0 : Nat} {r1 : Nat} {w0 : Nat} {w1 : Nat}
    (h : zK σ w1 = 6 ∧ (∀ τ1, τ1 = stP σ w1 4 (some w0) → zN τ1 + 1 ≤ C ∧ zS τ1 + 2 ≤ S ∧ (∀ τ2, τ2 = alO τ1 7 2 → WP g C S 52 0 [some (.ref (zN τ1))] [] τ2 (KK g C S 38 56 [some (.ref r0), some (.ref r1)] [.ref (zN τ1), .ref r0] Q false)))) :
    WP g C S 38 45 [some (.ref r0), some (.ref r1)] [.ref w0, .ref w1] σ Q := by
  obtain ⟨hK, h⟩ := h
  refine r_putP dX4_init_45 rfl (by decide) (Or.inr ⟨rfl, rfl⟩) rfl hK ?_
  generalize eτ1 : stP σ w1 4 (some w0) = τ1
  replace h := h _ eτ1.symm
  refine r_g (pc' := 49) (ls' := [some (.ref r0), some (.ref r1)]) (st' := [.ref r0]) dX4_init_48 (fun _ => rfl) ?_
  obtain ⟨hC, hS, h⟩ := h
  refine r_new (N := 2) dX4_init_49 rfl (by decide) rfl hC hS ?_
  generalize eτ2 : alO τ1 (6 + 1) 2 = τ2
  replace h := h _ eτ2.symm
  refine r_g (pc' := 53) (ls' := [some (.ref r0), some (.ref r1)]) (st' := [.ref (zN τ1), .ref (zN τ1), .ref r0]) dX4_init_52 (fun _ => rfl) ?_
  exact r_call (th := false) dX4_init_53 (fun _ => ex_calI rfl (by decide)) rfl (Nat.le_of_ble_eq_true rfl) (Nat.le_of_ble_eq_true rfl) (Nat.le_of_ble_eq_true rfl) rfl rfl rfl rfl (fun q => nomatch q) h
theorem b38_56 {g : Nat → Nat} {C S : Nat} {σ : PS} {Q : Rs → PS → Prop} {r0 : Nat} {r1 : Nat} {w0 : Nat} {w1 : Nat}
    (h : zK σ w1 = 6 ∧ (∀ τ1, τ1 = stP σ w1 5 (some w0) → zK τ1 r0 = 6 ∧ (∀ τ2, τ2 = stI τ1 r0 6 0 → zN τ2 + 1 ≤ C ∧ zS τ2 + 2 ≤ S ∧ (∀ τ3, τ3 = alO τ2 7 2 → WP g C S 52 0 [some (.ref (zN τ2))] [] τ3 (KK g C S 38 72 [some (.ref r0), some (.ref r1)] [.ref (zN τ2), .ref r0] Q false))))) :
    WP g C S 38 56 [some (.ref r0), some (.ref r1)] [.ref w0, .ref w1] σ Q := by
  obtain ⟨hK, h⟩ := h
  refine r_putP dX4_init_56 rfl (by decide) (Or.inr ⟨rfl, rfl⟩) rfl hK ?_
  generalize eτ1 : stP σ w1 5 (some w0) = τ1
  replace h := h _ eτ1.symm
  refine r_g (pc' := 60) (ls' := [some (.ref r0), some (.ref r1)]) (st' := [.ref r0]) dX4_init_59 (fun _ => rfl) ?_
  refine r_ic (v := 0) dX4_init_60 (by decide) ?_
  obtain ⟨hK, h⟩ := h
  refine r_putI dX4_init_61 rfl (by decide) (Or.inl rfl) rfl (Or.inl rfl) hK ?_
  generalize eτ2 : stI τ1 r0 6 0 = τ2
  replace h := h _ eτ2.symm
  refine r_g (pc' := 65) (ls' := [some (.ref r0), some (.ref r1)]) (st' := [.ref r0]) dX4_init_64 (fun _ => rfl) ?_
  obtain ⟨hC, hS, h⟩ := h
  refine r_new (N := 2) dX4_init_65 rfl (by decide) rfl hC hS ?_
  generalize eτ3 : alO τ2 (6 + 1) 2 = τ3
  replace h := h _ eτ3.symm
  refine r_g (pc' := 69) (ls' := [some (.ref r0), some (.ref r1)]) (st' := [.ref (zN τ2), .ref (zN τ2), .ref r0]) dX4_init_68 (fun _ => rfl) ?_
  exact r_call (th := false) dX4_init_69 (fun _ => ex_calI rfl (by decide)) rfl (Nat.le_of_ble_eq_true rfl) (Nat.le_of_ble_eq_true rfl) (Nat.le_of_ble_eq_true rfl) rfl rfl rfl rfl (fun q => nomatch q) h
theorem b38_72 {g : Nat → Nat} {C S : Nat} {σ : PS} {Q : Rs → PS → Prop} {r0 : Nat} {r1 : Nat} {w0 : Nat} {w1 : Nat}
    (h : zK σ w1 = 6 ∧ (∀ τ1, τ1 = stP σ w1 7 (some w0) → zK τ1 r0 = 6 ∧ (∀ τ2, τ2 = stP τ1 r0 0 (some r1) → Q (Sum.inl none) τ2))) :
    WP g C S 38 72 [some (.ref r0), some (.ref r1)] [.ref w0, .ref w1] σ Q := by
  obtain ⟨hK, h⟩ := h
  refine r_putP dX4_init_72 rfl (by decide) (Or.inr ⟨rfl, rfl⟩) rfl hK ?_
  generalize eτ1 : stP σ w1 7 (some w0) = τ1
  replace h := h _ eτ1.symm
  refine r_g (pc' := 76) (ls' := [some (.ref r0), some (.ref r1)]) (st' := [.ref r0]) dX4_init_75 (fun _ => rfl) ?_
  refine r_g (pc' := 77) (ls' := [some (.ref r0), some (.ref r1)]) (st' := [.ref r1, .ref r0]) dX4_init_76 (fun _ => rfl) ?_
  obtain ⟨hK, h⟩ := h
  refine r_putP dX4_init_77 rfl (by decide) (Or.inl rfl) rfl hK ?_
  generalize eτ2 : stP τ1 r0 0 (some r1) = τ2
  replace h := h _ eτ2.symm
  exact r_vret dX4_init_80 rfl h
theorem b39_0 {g : Nat → Nat} {C S : Nat} {σ : PS} {Q : Rs → PS → Prop} {r0 : Nat} {r1 : Nat}
    (h : zK σ r0 = 6 ∧ (∀ τ1, τ1 = stP σ r0 0 (some r1) → zK τ1 r0 = 6 ∧ ∃ b2, zP τ1 r0 1 = some b2 ∧ (zK τ1 r1 = 2 ∧ WP g C S 3 0 [some (.ref r1), some (.int 0), none, none, none, none] [] τ1 (KK g C S 39 14 [some (.ref r0), some (.ref r1)] [.ref b2] Q false)))) :
    WP g C S 39 0 [some (.ref r0), some (.ref r1)] [] σ Q := by
  refine r_g (pc' := 1) (ls' := [some (.ref r0), some (.ref r1)]) (st' := [.ref r0]) dX4_tellOf_0 (fun _ => rfl) ?_
  refine r_g (pc' := 2) (ls' := [some (.ref r0), some (.ref r1)]) (st' := [.ref r1, .ref r0]) dX4_tellOf_1 (fun _ => rfl) ?_
  obtain ⟨hK, h⟩ := h
  refine r_putP dX4_tellOf_2 rfl (by decide) (Or.inl rfl) rfl hK ?_
  generalize eτ1 : stP σ r0 0 (some r1) = τ1
  replace h := h _ eτ1.symm
  refine r_g (pc' := 6) (ls' := [some (.ref r0), some (.ref r1)]) (st' := [.ref r0]) dX4_tellOf_5 (fun _ => rfl) ?_
  obtain ⟨hK, b2, hP, h⟩ := h
  refine r_getP dX4_tellOf_6 rfl (by decide) rfl hK hP ?_
  refine r_g (pc' := 10) (ls' := [some (.ref r0), some (.ref r1)]) (st' := [.ref r1, .ref b2]) dX4_tellOf_9 (fun _ => rfl) ?_
  refine r_ic (v := 0) dX4_tellOf_10 (by decide) ?_
  obtain ⟨hK, h⟩ := h
  exact r_call (th := false) dX4_tellOf_11 (fun _ => ex_calV rfl (by decide)) rfl (Nat.le_of_ble_eq_true rfl) (Nat.le_of_ble_eq_true rfl) (Nat.le_of_ble_eq_true rfl) (rcv0 rfl rfl (by decide) hK) rfl rfl rfl (fun q => nomatch q) h
theorem b39_14 {g : Nat → Nat} {C S : Nat} {σ : PS} {Q : Rs → PS → Prop} {r0 : Nat} {l1 : Option Value} {w0 : Nat} {w1 : Nat}
    (h : zK σ w1 = 5 ∧ WP g C S 20 0 [some (.ref w1), some (.ref w0), none, none, none] [] σ (KK g C S 39 17 [some (.ref r0), l1] [] Q false)) :
    WP g C S 39 14 [some (.ref r0), l1] [.ref w0, .ref w1] σ Q := by
  obtain ⟨hK, h⟩ := h
  exact r_call (th := false) dX4_tellOf_14 (fun _ => ex_calV rfl (by decide)) rfl (Nat.le_of_ble_eq_true rfl) (Nat.le_of_ble_eq_true rfl) (Nat.le_of_ble_eq_true rfl) (rcv0 rfl rfl (by decide) hK) rfl rfl rfl (fun q => nomatch q) h
theorem b39_17 {g : Nat → Nat} {C S : Nat} {σ : PS} {Q : Rs → PS → Prop} {r0 : Nat} {l1 : Option Value}
    (h : zK σ r0 = 6 ∧ ∃ b1, zP σ r0 3 = some b1 ∧ (zK σ b1 = 7 ∧ WP g C S 53 0 [some (.ref b1)] [] σ (KK g C S 39 24 [some (.ref r0), l1] [] Q false))) :
    WP g C S 39 17 [some (.ref r0), l1] [] σ Q := by
  refine r_g (pc' := 18) (ls' := [some (.ref r0), l1]) (st' := [.ref r0]) dX4_tellOf_17 (fun _ => rfl) ?_
  obtain ⟨hK, b1, hP, h⟩ := h
  refine r_getP dX4_tellOf_18 rfl (by decide) rfl hK hP ?_
  obtain ⟨hK, h⟩ := h
  exact r_call (th := false) dX4_tellOf_21 (fun _ => ex_calV rfl (by decide)) rfl (Nat.le_of_ble_eq_true rfl) (Nat.le_of_ble_eq_true rfl) (Nat.le_of_ble_eq_true rfl) (rcv0 rfl rfl (by decide) hK) rfl rfl rfl (fun q => nomatch q) h
theorem b39_24 {g : Nat → Nat} {C S : Nat} {σ : PS} {Q : Rs → PS → Prop} {r0 : Nat} {l1 : Option Value}
    (h : zK σ r0 = 6 ∧ ∃ b1, zP σ r0 4 = some b1 ∧ (zK σ b1 = 7 ∧ WP g C S 53 0 [some (.ref b1)] [] σ (KK g C S 39 31 [some (.ref r0), l1] [] Q false))) :
    WP g C S 39 24 [some (.ref r0), l1] [] σ Q := by
  refine r_g (pc' := 25) (ls' := [some (.ref r0), l1]) (st' := [.ref r0]) dX4_tellOf_24 (fun _ => rfl) ?_
  obtain ⟨hK, b1, hP, h⟩ := h
  refine r_getP dX4_tellOf_25 rfl (by decide) rfl hK hP ?_
  obtain ⟨hK, h⟩ := h
  exact r_call (th := false) dX4_tellOf_28 (fun _ => ex_calV rfl (by decide)) rfl (Nat.le_of_ble_eq_true rfl) (Nat.le_of_ble_eq_true rfl) (Nat.le_of_ble_eq_true rfl) (rcv0 rfl rfl (by decide) hK) rfl rfl rfl (fun q => nomatch q) h
theorem b39_31 {g : Nat → Nat} {C S : Nat} {σ : PS} {Q : Rs → PS → Prop} {r0 : Nat} {l1 : Option Value}
    (h : zK σ r0 = 6 ∧ ∃ b1, zP σ r0 1 = some b1 ∧ (zK σ b1 = 5 ∧ WP g C S 19 0 [some (.ref b1)] [] σ (KK g C S 39 38 [some (.ref r0), l1] [] Q false))) :
    WP g C S 39 31 [some (.ref r0), l1] [] σ Q := by
  refine r_g (pc' := 32) (ls' := [some (.ref r0), l1]) (st' := [.ref r0]) dX4_tellOf_31 (fun _ => rfl) ?_
  obtain ⟨hK, b1, hP, h⟩ := h
  refine r_getP dX4_tellOf_32 rfl (by decide) rfl hK hP ?_
  obtain ⟨hK, h⟩ := h
  exact r_call (th := false) dX4_tellOf_35 (fun _ => ex_calV rfl (by decide)) rfl (Nat.le_of_ble_eq_true rfl) (Nat.le_of_ble_eq_true rfl) (Nat.le_of_ble_eq_true rfl) (rcv0 rfl rfl (by decide) hK) rfl rfl rfl (fun q => nomatch q) h
theorem b39_38 {g : Nat → Nat} {C S : Nat} {σ : PS} {Q : Rs → PS → Prop} {r0 : Nat} {l1 : Option Value} {u0 : Int32}
    (h : ((u0 : Int32) ≤ 0 → WP g C S 39 72 [some (.ref r0), l1] [] σ Q) ∧ (¬ ((u0 : Int32) ≤ 0) → zK σ r0 = 6 ∧ ∃ b1, zP σ r0 1 = some b1 ∧ (zK σ r0 = 6 ∧ ∃ b2, zP σ r0 3 = some b2 ∧ (zK σ b1 = 5 ∧ WP g C S 32 0 [some (.ref b1), some (.int 0), some (.ref b2)] [] σ (KK g C S 39 53 [some (.ref r0), l1] [] Q false))))) :
    WP g C S 39 38 [some (.ref r0), l1] [.int u0] σ Q := by
  obtain ⟨h1, h2⟩ := h
  refine r_if (t := 72) dX4_tellOf_38 (by decide) c_le (fun c => ?_) (fun c => ?_)
  · have h := h1 c
    exact h
  · have h := h2 c
    refine r_g (pc' := 42) (ls' := [some (.ref r0), l1]) (st' := [.ref r0]) dX4_tellOf_41 (fun _ => rfl) ?_
    obtain ⟨hK, b1, hP, h⟩ := h
    refine r_getP dX4_tellOf_42 rfl (by decide) rfl hK hP ?_
    refine r_ic (v := 0) dX4_tellOf_45 (by decide) ?_
    refine r_g (pc' := 47) (ls' := [some (.ref r0), l1]) (st' := [.ref r0, .int 0, .ref b1]) dX4_tellOf_46 (fun _ => rfl) ?_
    obtain ⟨hK, b2, hP, h⟩ := h
    refine r_getP dX4_tellOf_47 rfl (by decide) rfl hK hP ?_
    obtain ⟨hK, h⟩ := h
    exact r_call (th := false) dX4_tellOf_50 (fun _ => ex_calV rfl (by decide)) rfl (Nat.le_of_ble_eq_true rfl) (Nat.le_of_ble_eq_true rfl) (Nat.le_of_ble_eq_true rfl) (rcv0 rfl rfl (by decide) hK) rfl rfl rfl (fun q => nomatch q) h
theorem b39_53 {g : Nat → Nat} {C S : Nat} {σ : PS} {Q : Rs → PS → Prop} {r0 : Nat} {l1 : Option Value}
    (h : zK σ r0 = 6 ∧ ∃ b1, zP σ r0 3 = some b1 ∧ (zK σ b1 = 7 ∧ WP g C S 63 0 [some (.ref b1), none] [] σ (KK g C S 39 60 [some (.ref r0), l1] [] Q false))) :
    WP g C S 39 53 [some (.ref r0), l1] [] σ Q := by
  refine r_g (pc' := 54) (ls' := [some (.ref r0), l1]) (st' := [.ref r0]) dX4_tellOf_53 (fun _ => rfl) ?_
  obtain ⟨hK, b1, hP, h⟩ := h
  refine r_getP dX4_tellOf_54 rfl (by decide) rfl hK hP ?_
  obtain ⟨hK, h⟩ := h
  exact r_call (th := false) dX4_tellOf_57 (fun _ => ex_calV rfl (by decide)) rfl (Nat.le_of_ble_eq_true rfl) (Nat.le_of_ble_eq_true rfl) (Nat.le_of_ble_eq_true rfl) (rcv0 rfl rfl (by decide) hK) rfl rfl rfl (fun q => nomatch q) h
theorem b39_60 {g : Nat → Nat} {C S : Nat} {σ : PS} {Q : Rs → PS → Prop} {r0 : Nat} {l1 : Option Value}
    (h : zK σ r0 = 6 ∧ ∃ b1, zP σ r0 1 = some b1 ∧ (zK σ r0 = 6 ∧ ∃ b2, zP σ r0 4 = some b2 ∧ (zK σ b1 = 5 ∧ WP g C S 33 0 [some (.ref b1), some (.int 0), some (.ref b2), none, none] [] σ (KK g C S 39 72 [some (.ref r0), l1] [] Q false)))) :
    WP g C S 39 60 [some (.ref r0), l1] [] σ Q := by
  refine r_g (pc' := 61) (ls' := [some (.ref r0), l1]) (st' := [.ref r0]) dX4_tellOf_60 (fun _ => rfl) ?_
  obtain ⟨hK, b1, hP, h⟩ := h
  refine r_getP dX4_tellOf_61 rfl (by decide) rfl hK hP ?_
  refine r_ic (v := 0) dX4_tellOf_64 (by decide) ?_
  refine r_g (pc' := 66) (ls' := [some (.ref r0), l1]) (st' := [.ref r0, .int 0, .ref b1]) dX4_tellOf_65 (fun _ => rfl) ?_
  obtain ⟨hK, b2, hP, h⟩ := h
  refine r_getP dX4_tellOf_66 rfl (by decide) rfl hK hP ?_
  obtain ⟨hK, h⟩ := h
  exact r_call (th := false) dX4_tellOf_69 (fun _ => ex_calV rfl (by decide)) rfl (Nat.le_of_ble_eq_true rfl) (Nat.le_of_ble_eq_true rfl) (Nat.le_of_ble_eq_true rfl) (rcv0 rfl rfl (by decide) hK) rfl rfl rfl (fun q => nomatch q) h
theorem b39_72 {g : Nat → Nat} {C S : Nat} {σ : PS} {Q : Rs → PS → Prop} {l0 : Option Value} {l1 : Option Value}
    (h : Q (Sum.inl none) σ) :
    WP g C S 39 72 [l0, l1] [] σ Q := by
  exact r_vret dX4_tellOf_72 rfl h
theorem b40_0 {g : Nat → Nat} {C S : Nat} {σ : PS} {Q : Rs → PS → Prop} {r0 : Nat} {x1 : Int32}
    (h : zK σ r0 = 6 ∧ ∃ b1, zP σ r0 2 = some b1 ∧ (zK σ b1 = 7 ∧ WP g C S 53 0 [some (.ref b1)] [] σ (KK g C S 40 7 [some (.ref r0), some (.int x1)] [] Q false))) :
    WP g C S 40 0 [some (.ref r0), some (.int x1)] [] σ Q := by
  refine r_g (pc' := 1) (ls' := [some (.ref r0), some (.int x1)]) (st' := [.ref r0]) dX4_setOrder_0 (fun _ => rfl) ?_
  obtain ⟨hK, b1, hP, h⟩ := h
  refine r_getP dX4_setOrder_1 rfl (by decide) rfl hK hP ?_
  obtain ⟨hK, h⟩ := h
  exact r_call (th := false) dX4_setOrder_4 (fun _ => ex_calV rfl (by decide)) rfl (Nat.le_of_ble_eq_true rfl) (Nat.le_of_ble_eq_true rfl) (Nat.le_of_ble_eq_true rfl) (rcv0 rfl rfl (by decide) hK) rfl rfl rfl (fun q => nomatch q) h
theorem b40_7 {g : Nat → Nat} {C S : Nat} {σ : PS} {Q : Rs → PS → Prop} {r0 : Nat} {x1 : Int32}
    (h : (¬ (x1 : Int32) = 2 → zK σ r0 = 6 ∧ ∃ b1, zP σ r0 1 = some b1 ∧ (zK σ r0 = 6 ∧ ∃ b2, zP σ r0 2 = some b2 ∧ (zK σ b1 = 5 ∧ WP g C S 35 0 [some (.ref b1), some (.ref b2), none, none] [] σ (KK g C S 40 41 [some (.ref r0), some (.int x1)] [] Q false)))) ∧ (¬ (¬ (x1 : Int32) = 2) → zK σ r0 = 6 ∧ WP g C S 41 0 [some (.ref r0)] [] σ (KK g C S 40 16 [some (.ref r0), some (.int x1)] [] Q false))) :
    WP g C S 40 7 [some (.ref r0), some (.int x1)] [] σ Q := by
  refine r_g (pc' := 8) (ls' := [some (.ref r0), some (.int x1)]) (st' := [.int x1]) dX4_setOrder_7 (fun _ => rfl) ?_
  refine r_ic (v := 2) dX4_setOrder_8 (by decide) ?_
  obtain ⟨h1, h2⟩ := h
  refine r_icmp (t := 30) dX4_setOrder_9 (by decide) c_ne (fun c => ?_) (fun c => ?_)
  · have h := h1 c
    refine r_g (pc' := 31) (ls' := [some (.ref r0), some (.int x1)]) (st' := [.ref r0]) dX4_setOrder_30 (fun _ => rfl) ?_
    obtain ⟨hK, b1, hP, h⟩ := h
    refine r_getP dX4_setOrder_31 rfl (by decide) rfl hK hP ?_
    refine r_g (pc' := 35) (ls' := [some (.ref r0), some (.int x1)]) (st' := [.ref r0, .ref b1]) dX4_setOrder_34 (fun _ => rfl) ?_
    obtain ⟨hK, b2, hP, h⟩ := h
    refine r_getP dX4_setOrder_35 rfl (by decide) rfl hK hP ?_
    obtain ⟨hK, h⟩ := h
    exact r_call (th := false) dX4_setOrder_38 (fun _ => ex_calV rfl (by decide)) rfl (Nat.le_of_ble_eq_true rfl) (Nat.le_of_ble_eq_true rfl) (Nat.le_of_ble_eq_true rfl) (rcv0 rfl rfl (by decide) hK) rfl rfl rfl (fun q => nomatch q) h
  · have h := h2 c
    refine r_g (pc' := 13) (ls' := [some (.ref r0), some (.int x1)]) (st' := [.ref r0]) dX4_setOrder_12 (fun _ => rfl) ?_
    obtain ⟨hK, h⟩ := h
    exact r_call (th := false) dX4_setOrder_13 (fun _ => ex_calV rfl (by decide)) rfl (Nat.le_of_ble_eq_true rfl) (Nat.le_of_ble_eq_true rfl) (Nat.le_of_ble_eq_true rfl) (rcv0 rfl rfl (by decide) hK) rfl rfl rfl (fun q => nomatch q) h
theorem b40_16 {g : Nat → Nat} {C S : Nat} {σ : PS} {Q : Rs → PS → Prop} {r0 : Nat} {l1 : Option Value}
    (h : zK σ r0 = 6 ∧ ∃ b1, zP σ r0 1 = some b1 ∧ (zK σ r0 = 6 ∧ ∃ b2, zP σ r0 2 = some b2 ∧ (zK σ b1 = 5 ∧ WP g C S 35 0 [some (.ref b1), some (.ref b2), none, none] [] σ (KK g C S 40 27 [some (.ref r0), l1] [] Q false)))) :
    WP g C S 40 16 [some (.ref r0), l1] [] σ Q := by
  refine r_g (pc' := 17) (ls' := [some (.ref r0), l1]) (st' := [.ref r0]) dX4_setOrder_16 (fun _ => rfl) ?_
  obtain ⟨hK, b1, hP, h⟩ := h
  refine r_getP dX4_setOrder_17 rfl (by decide) rfl hK hP ?_
  refine r_g (pc' := 21) (ls' := [some (.ref r0), l1]) (st' := [.ref r0, .ref b1]) dX4_setOrder_20 (fun _ => rfl) ?_
  obtain ⟨hK, b2, hP, h⟩ := h
  refine r_getP dX4_setOrder_21 rfl (by decide) rfl hK hP ?_
  obtain ⟨hK, h⟩ := h
  exact r_call (th := false) dX4_setOrder_24 (fun _ => ex_calV rfl (by decide)) rfl (Nat.le_of_ble_eq_true rfl) (Nat.le_of_ble_eq_true rfl) (Nat.le_of_ble_eq_true rfl) (rcv0 rfl rfl (by decide) hK) rfl rfl rfl (fun q => nomatch q) h
theorem b40_27 {g : Nat → Nat} {C S : Nat} {σ : PS} {Q : Rs → PS → Prop} {r0 : Nat} {l1 : Option Value}
    (h : WP g C S 40 45 [some (.ref r0), l1] [] σ Q) :
    WP g C S 40 27 [some (.ref r0), l1] [] σ Q := by
  refine r_goto (t := 45) dX4_setOrder_27 (by decide) ?_
  exact h
theorem b40_41 {g : Nat → Nat} {C S : Nat} {σ : PS} {Q : Rs → PS → Prop} {r0 : Nat} {l1 : Option Value}
    (h : zK σ r0 = 6 ∧ WP g C S 41 0 [some (.ref r0)] [] σ (KK g C S 40 45 [some (.ref r0), l1] [] Q false)) :
    WP g C S 40 41 [some (.ref r0), l1] [] σ Q := by
  refine r_g (pc' := 42) (ls' := [some (.ref r0), l1]) (st' := [.ref r0]) dX4_setOrder_41 (fun _ => rfl) ?_
  obtain ⟨hK, h⟩ := h
  exact r_call (th := false) dX4_setOrder_42 (fun _ => ex_calV rfl (by decide)) rfl (Nat.le_of_ble_eq_true rfl) (Nat.le_of_ble_eq_true rfl) (Nat.le_of_ble_eq_true rfl) (rcv0 rfl rfl (by decide) hK) rfl rfl rfl (fun q => nomatch q) h
theorem b40_45 {g : Nat → Nat} {C S : Nat} {σ : PS} {Q : Rs → PS → Prop} {r0 : Nat} {l1 : Option Value}
    (h : zK σ r0 = 6 ∧ ∃ b1, zP σ r0 2 = some b1 ∧ (zK σ r0 = 6 ∧ ∃ b2, zP σ r0 0 = some b2 ∧ (zK σ b2 = 2 ∧ WP g C S 3 0 [some (.ref b2), some (.int 1), none, none, none, none] [] σ (KK g C S 40 57 [some (.ref r0), l1] [.ref b1] Q false)))) :
    WP g C S 40 45 [some (.ref r0), l1] [] σ Q := by
  refine r_g (pc' := 46) (ls' := [some (.ref r0), l1]) (st' := [.ref r0]) dX4_setOrder_45 (fun _ => rfl) ?_
  obtain ⟨hK, b1, hP, h⟩ := h
  refine r_getP dX4_setOrder_46 rfl (by decide) rfl hK hP ?_
  refine r_g (pc' := 50) (ls' := [some (.ref r0), l1]) (st' := [.ref r0, .ref b1]) dX4_setOrder_49 (fun _ => rfl) ?_
  obtain ⟨hK, b2, hP, h⟩ := h
  refine r_getP dX4_setOrder_50 rfl (by decide) rfl hK hP ?_
  refine r_ic (v := 1) dX4_setOrder_53 (by decide) ?_
  obtain ⟨hK, h⟩ := h
  exact r_call (th := false) dX4_setOrder_54 (fun _ => ex_calV rfl (by decide)) rfl (Nat.le_of_ble_eq_true rfl) (Nat.le_of_ble_eq_true rfl) (Nat.le_of_ble_eq_true rfl) (rcv0 rfl rfl (by decide) hK) rfl rfl rfl (fun q => nomatch q) h
theorem b40_57 {g : Nat → Nat} {C S : Nat} {σ : PS} {Q : Rs → PS → Prop} {r0 : Nat} {l1 : Option Value} {w0 : Nat} {w1 : Nat}
    (h : zK σ w1 = 7 ∧ WP g C S 60 0 [some (.ref w1), some (.ref w0)] [] σ (KK g C S 40 60 [some (.ref r0), l1] [] Q false)) :
    WP g C S 40 57 [some (.ref r0), l1] [.ref w0, .ref w1] σ Q := by
  obtain ⟨hK, h⟩ := h
  exact r_call (th := false) dX4_setOrder_57 (fun _ => ex_calV rfl (by decide)) rfl (Nat.le_of_ble_eq_true rfl) (Nat.le_of_ble_eq_true rfl) (Nat.le_of_ble_eq_true rfl) (rcv0 rfl rfl (by decide) hK) rfl rfl rfl (fun q => nomatch q) h
theorem b40_60 {g : Nat → Nat} {C S : Nat} {σ : PS} {Q : Rs → PS → Prop} {r0 : Nat} {l1 : Option Value}
    (h : zK σ r0 = 6 ∧ ∃ b1, zP σ r0 2 = some b1 ∧ (zK σ b1 = 7 ∧ WP g C S 63 0 [some (.ref b1), none] [] σ (KK g C S 40 67 [some (.ref r0), l1] [] Q false))) :
    WP g C S 40 60 [some (.ref r0), l1] [] σ Q := by
  refine r_g (pc' := 61) (ls' := [some (.ref r0), l1]) (st' := [.ref r0]) dX4_setOrder_60 (fun _ => rfl) ?_
  obtain ⟨hK, b1, hP, h⟩ := h
  refine r_getP dX4_setOrder_61 rfl (by decide) rfl hK hP ?_
  obtain ⟨hK, h⟩ := h
  exact r_call (th := false) dX4_setOrder_64 (fun _ => ex_calV rfl (by decide)) rfl (Nat.le_of_ble_eq_true rfl) (Nat.le_of_ble_eq_true rfl) (Nat.le_of_ble_eq_true rfl) (rcv0 rfl rfl (by decide) hK) rfl rfl rfl (fun q => nomatch q) h
theorem b40_67 {g : Nat → Nat} {C S : Nat} {σ : PS} {Q : Rs → PS → Prop} {l0 : Option Value} {l1 : Option Value}
    (h : Q (Sum.inl none) σ) :
    WP g C S 40 67 [l0, l1] [] σ Q := by
  exact r_vret dX4_setOrder_67 rfl h
theorem b41_0 {g : Nat → Nat} {C S : Nat} {σ : PS} {Q : Rs → PS → Prop} {r0 : Nat}
    (h : zK σ r0 = 6 ∧ ∃ b1, zP σ r0 2 = some b1 ∧ (zK σ r0 = 6 ∧ ∃ b2, zP σ r0 0 = some b2 ∧ (zK σ b2 = 2 ∧ WP g C S 3 0 [some (.ref b2), some (.int 2), none, none, none, none] [] σ (KK g C S 41 12 [some (.ref r0)] [.ref b1] Q false)))) :
    WP g C S 41 0 [some (.ref r0)] [] σ Q := by
  refine r_g (pc' := 1) (ls' := [some (.ref r0)]) (st' := [.ref r0]) dX4_addYearOrder_0 (fun _ => rfl) ?_
  obtain ⟨hK, b1, hP, h⟩ := h
  refine r_getP dX4_addYearOrder_1 rfl (by decide) rfl hK hP ?_
  refine r_g (pc' := 5) (ls' := [some (.ref r0)]) (st' := [.ref r0, .ref b1]) dX4_addYearOrder_4 (fun _ => rfl) ?_
  obtain ⟨hK, b2, hP, h⟩ := h
  refine r_getP dX4_addYearOrder_5 rfl (by decide) rfl hK hP ?_
  refine r_ic (v := 2) dX4_addYearOrder_8 (by decide) ?_
  obtain ⟨hK, h⟩ := h
  exact r_call (th := false) dX4_addYearOrder_9 (fun _ => ex_calV rfl (by decide)) rfl (Nat.le_of_ble_eq_true rfl) (Nat.le_of_ble_eq_true rfl) (Nat.le_of_ble_eq_true rfl) (rcv0 rfl rfl (by decide) hK) rfl rfl rfl (fun q => nomatch q) h
theorem b41_12 {g : Nat → Nat} {C S : Nat} {σ : PS} {Q : Rs → PS → Prop} {r0 : Nat} {w0 : Nat} {w1 : Nat}
    (h : zK σ w1 = 7 ∧ WP g C S 60 0 [some (.ref w1), some (.ref w0)] [] σ (KK g C S 41 15 [some (.ref r0)] [] Q false)) :
    WP g C S 41 12 [some (.ref r0)] [.ref w0, .ref w1] σ Q := by
  obtain ⟨hK, h⟩ := h
  exact r_call (th := false) dX4_addYearOrder_12 (fun _ => ex_calV rfl (by decide)) rfl (Nat.le_of_ble_eq_true rfl) (Nat.le_of_ble_eq_true rfl) (Nat.le_of_ble_eq_true rfl) (rcv0 rfl rfl (by decide) hK) rfl rfl rfl (fun q => nomatch q) h
theorem b41_15 {g : Nat → Nat} {C S : Nat} {σ : PS} {Q : Rs → PS → Prop} {r0 : Nat}
    (h : zK σ r0 = 6 ∧ ∃ b1, zP σ r0 2 = some b1 ∧ (zK σ b1 = 7 ∧ WP g C S 57 0 [some (.ref b1), some (.int 0), none] [] σ (KK g C S 41 23 [some (.ref r0)] [] Q false))) :
    WP g C S 41 15 [some (.ref r0)] [] σ Q := by
  refine r_g (pc' := 16) (ls' := [some (.ref r0)]) (st' := [.ref r0]) dX4_addYearOrder_15 (fun _ => rfl) ?_
  obtain ⟨hK, b1, hP, h⟩ := h
  refine r_getP dX4_addYearOrder_16 rfl (by decide) rfl hK hP ?_
  refine r_ic (v := 0) dX4_addYearOrder_19 (by decide) ?_
  obtain ⟨hK, h⟩ := h
  exact r_call (th := false) dX4_addYearOrder_20 (fun _ => ex_calV rfl (by decide)) rfl (Nat.le_of_ble_eq_true rfl) (Nat.le_of_ble_eq_true rfl) (Nat.le_of_ble_eq_true rfl) (rcv0 rfl rfl (by decide) hK) rfl rfl rfl (fun q => nomatch q) h
theorem b41_23 {g : Nat → Nat} {C S : Nat} {σ : PS} {Q : Rs → PS → Prop} {l0 : Option Value}
    (h : Q (Sum.inl none) σ) :
    WP g C S 41 23 [l0] [] σ Q := by
  exact r_vret dX4_addYearOrder_23 rfl h
theorem b42_0 {g : Nat → Nat} {C S : Nat} {σ : PS} {Q : Rs → PS → Prop} {r0 : Nat} {r1 : Nat}
    (h : zK σ r0 = 6 ∧ ∃ b1, zP σ r0 1 = some b1 ∧ (zK σ b1 = 5 ∧ WP g C S 19 0 [some (.ref b1)] [] σ (KK g C S 42 7 [some (.ref r0), some (.ref r1)] [] Q false))) :
    WP g C S 42 0 [some (.ref r0), some (.ref r1)] [] σ Q := by
  refine r_g (pc' := 1) (ls' := [some (.ref r0), some (.ref r1)]) (st' := [.ref r0]) dX4_isMistakenFor_0 (fun _ => rfl) ?_
  obtain ⟨hK, b1, hP, h⟩ := h
  refine r_getP dX4_isMistakenFor_1 rfl (by decide) rfl hK hP ?_
  obtain ⟨hK, h⟩ := h
  exact r_call (th := false) dX4_isMistakenFor_4 (fun _ => ex_calV rfl (by decide)) rfl (Nat.le_of_ble_eq_true rfl) (Nat.le_of_ble_eq_true rfl) (Nat.le_of_ble_eq_true rfl) (rcv0 rfl rfl (by decide) hK) rfl rfl rfl (fun q => nomatch q) h
theorem b42_7 {g : Nat → Nat} {C S : Nat} {σ : PS} {Q : Rs → PS → Prop} {r0 : Nat} {r1 : Nat} {u0 : Int32}
    (h : ((u0 : Int32) ≤ 0 → WP g C S 42 52 [some (.ref r0), some (.ref r1)] [] σ Q) ∧ (¬ ((u0 : Int32) ≤ 0) → zK σ r1 = 6 ∧ ∃ b1, zP σ r1 1 = some b1 ∧ (zK σ b1 = 5 ∧ WP g C S 19 0 [some (.ref b1)] [] σ (KK g C S 42 17 [some (.ref r0), some (.ref r1)] [] Q false)))) :
    WP g C S 42 7 [some (.ref r0), some (.ref r1)] [.int u0] σ Q := by
  obtain ⟨h1, h2⟩ := h
  refine r_if (t := 52) dX4_isMistakenFor_7 (by decide) c_le (fun c => ?_) (fun c => ?_)
  · have h := h1 c
    exact h
  · have h := h2 c
    refine r_g (pc' := 11) (ls' := [some (.ref r0), some (.ref r1)]) (st' := [.ref r1]) dX4_isMistakenFor_10 (fun _ => rfl) ?_
    obtain ⟨hK, b1, hP, h⟩ := h
    refine r_getP dX4_isMistakenFor_11 rfl (by decide) rfl hK hP ?_
    obtain ⟨hK, h⟩ := h
    exact r_call (th := false) dX4_isMistakenFor_14 (fun _ => ex_calV rfl (by decide)) rfl (Nat.le_of_ble_eq_true rfl) (Nat.le_of_ble_eq_true rfl) (Nat.le_of_ble_eq_true rfl) (rcv0 rfl rfl (by decide) hK) rfl rfl rfl (fun q => nomatch q) h
theorem b42_17 {g : Nat → Nat} {C S : Nat} {σ : PS} {Q : Rs → PS → Prop} {r0 : Nat} {r1 : Nat} {u0 : Int32}
    (h : ((u0 : Int32) ≤ 0 → WP g C S 42 52 [some (.ref r0), some (.ref r1)] [] σ Q) ∧ (¬ ((u0 : Int32) ≤ 0) → zK σ r0 = 6 ∧ ∃ b1, zP σ r0 4 = some b1 ∧ (zK σ r1 = 6 ∧ ∃ b2, zP σ r1 4 = some b2 ∧ (zK σ b1 = 7 ∧ WP g C S 65 0 [some (.ref b1), some (.ref b2)] [] σ (KK g C S 42 31 [some (.ref r0), some (.ref r1)] [] Q false))))) :
    WP g C S 42 17 [some (.ref r0), some (.ref r1)] [.int u0] σ Q := by
  obtain ⟨h1, h2⟩ := h
  refine r_if (t := 52) dX4_isMistakenFor_17 (by decide) c_le (fun c => ?_) (fun c => ?_)
  · have h := h1 c
    exact h
  · have h := h2 c
    refine r_g (pc' := 21) (ls' := [some (.ref r0), some (.ref r1)]) (st' := [.ref r0]) dX4_isMistakenFor_20 (fun _ => rfl) ?_
    obtain ⟨hK, b1, hP, h⟩ := h
    refine r_getP dX4_isMistakenFor_21 rfl (by decide) rfl hK hP ?_
    refine r_g (pc' := 25) (ls' := [some (.ref r0), some (.ref r1)]) (st' := [.ref r1, .ref b1]) dX4_isMistakenFor_24 (fun _ => rfl) ?_
    obtain ⟨hK, b2, hP, h⟩ := h
    refine r_getP dX4_isMistakenFor_25 rfl (by decide) rfl hK hP ?_
    obtain ⟨hK, h⟩ := h
    exact r_call (th := false) dX4_isMistakenFor_28 (fun _ => ex_calV rfl (by decide)) rfl (Nat.le_of_ble_eq_true rfl) (Nat.le_of_ble_eq_true rfl) (Nat.le_of_ble_eq_true rfl) (rcv0 rfl rfl (by decide) hK) rfl rfl rfl (fun q => nomatch q) h
theorem b42_31 {g : Nat → Nat} {C S : Nat} {σ : PS} {Q : Rs → PS → Prop} {r0 : Nat} {r1 : Nat} {u0 : Int32}
    (h : (¬ (u0 : Int32) = 0 → WP g C S 42 52 [some (.ref r0), some (.ref r1)] [] σ Q) ∧ (¬ (¬ (u0 : Int32) = 0) → zK σ r0 = 6 ∧ ∃ b1, zP σ r0 3 = some b1 ∧ (zK σ r1 = 6 ∧ ∃ b2, zP σ r1 3 = some b2 ∧ (zK σ b1 = 7 ∧ WP g C S 65 0 [some (.ref b1), some (.ref b2)] [] σ (KK g C S 42 45 [some (.ref r0), some (.ref r1)] [] Q false))))) :
    WP g C S 42 31 [some (.ref r0), some (.ref r1)] [.int u0] σ Q := by
  obtain ⟨h1, h2⟩ := h
  refine r_if (t := 52) dX4_isMistakenFor_31 (by decide) c_ne (fun c => ?_) (fun c => ?_)
  · have h := h1 c
    exact h
  · have h := h2 c
    refine r_g (pc' := 35) (ls' := [some (.ref r0), some (.ref r1)]) (st' := [.ref r0]) dX4_isMistakenFor_34 (fun _ => rfl) ?_
    obtain ⟨hK, b1, hP, h⟩ := h
    refine r_getP dX4_isMistakenFor_35 rfl (by decide) rfl hK hP ?_
    refine r_g (pc' := 39) (ls' := [some (.ref r0), some (.ref r1)]) (st' := [.ref r1, .ref b1]) dX4_isMistakenFor_38 (fun _ => rfl) ?_
    obtain ⟨hK, b2, hP, h⟩ := h
    refine r_getP dX4_isMistakenFor_39 rfl (by decide) rfl hK hP ?_
    obtain ⟨hK, h⟩ := h
    exact r_call (th := false) dX4_isMistakenFor_42 (fun _ => ex_calV rfl (by decide)) rfl (Nat.le_of_ble_eq_true rfl) (Nat.le_of_ble_eq_true rfl) (Nat.le_of_ble_eq_true rfl) (rcv0 rfl rfl (by decide) hK) rfl rfl rfl (fun q => nomatch q) h
theorem b42_45 {g : Nat → Nat} {C S : Nat} {σ : PS} {Q : Rs → PS → Prop} {l0 : Option Value} {l1 : Option Value} {u0 : Int32}
    (h : ((u0 : Int32) = 0 → WP g C S 42 52 [l0, l1] [] σ Q) ∧ (¬ ((u0 : Int32) = 0) → WP g C S 42 53 [l0, l1] [.int 1] σ Q)) :
    WP g C S 42 45 [l0, l1] [.int u0] σ Q := by
  obtain ⟨h1, h2⟩ := h
  refine r_if (t := 52) dX4_isMistakenFor_45 (by decide) c_eq (fun c => ?_) (fun c => ?_)
  · have h := h1 c
    exact h
  · have h := h2 c
    refine r_ic (v := 1) dX4_isMistakenFor_48 (by decide) ?_
    refine r_goto (t := 53) dX4_isMistakenFor_49 (by decide) ?_
    exact h
theorem b42_52 {g : Nat → Nat} {C S : Nat} {σ : PS} {Q : Rs → PS → Prop} {l0 : Option Value} {l1 : Option Value}
    (h : WP g C S 42 53 [l0, l1] [.int 0] σ Q) :
    WP g C S 42 52 [l0, l1] [] σ Q := by
  refine r_ic (v := 0) dX4_isMistakenFor_52 (by decide) ?_
  exact h
theorem b42_53 {g : Nat → Nat} {C S : Nat} {σ : PS} {Q : Rs → PS → Prop} {l0 : Option Value} {l1 : Option Value} {u0 : Int32}
    (h : ((u0 : Int32) = 0 ∨ u0 = 1) ∧ Q (Sum.inl (some (.int u0))) σ) :
    WP g C S 42 53 [l0, l1] [.int u0] σ Q := by
  obtain ⟨hn, h⟩ := h
  exact r_ret dX4_isMistakenFor_53 (by rcases hn with q | q <;> rw [q] <;> rfl) h
theorem b43_0 {g : Nat → Nat} {C S : Nat} {σ : PS} {Q : Rs → PS → Prop} {r0 : Nat} {x1 : Int32} {x2 : Int32}
    (h : zK σ r0 = 6 ∧ ∃ b1, zP σ r0 5 = some b1 ∧ (zK σ b1 = 7 ∧ WP g C S 53 0 [some (.ref b1)] [] σ (KK g C S 43 7 [some (.ref r0), some (.int x1), some (.int x2)] [] Q false))) :
    WP g C S 43 0 [some (.ref r0), some (.int x1), some (.int x2)] [] σ Q := by
  refine r_g (pc' := 1) (ls' := [some (.ref r0), some (.int x1), some (.int x2)]) (st' := [.ref r0]) dX4_setBase_0 (fun _ => rfl) ?_
  obtain ⟨hK, b1, hP, h⟩ := h
  refine r_getP dX4_setBase_1 rfl (by decide) rfl hK hP ?_
  obtain ⟨hK, h⟩ := h
  exact r_call (th := false) dX4_setBase_4 (fun _ => ex_calV rfl (by decide)) rfl (Nat.le_of_ble_eq_true rfl) (Nat.le_of_ble_eq_true rfl) (Nat.le_of_ble_eq_true rfl) (rcv0 rfl rfl (by decide) hK) rfl rfl rfl (fun q => nomatch q) h
theorem b43_7 {g : Nat → Nat} {C S : Nat} {σ : PS} {Q : Rs → PS → Prop} {r0 : Nat} {x1 : Int32} {x2 : Int32}
    (h : (¬ (x1 : Int32) = 1 → (¬ (x1 : Int32) = 2 → WP g C S 43 29 [some (.ref r0), some (.int x1), some (.int x2)] [] σ Q) ∧ (¬ (¬ (x1 : Int32) = 2) → zK σ r0 = 6 ∧ WP g C S 45 0 [some (.ref r0), some (.int x2)] [] σ (KK g C S 43 29 [some (.ref r0), some (.int x1), some (.int x2)] [] Q false))) ∧ (¬ (¬ (x1 : Int32) = 1) → zK σ r0 = 6 ∧ WP g C S 44 0 [some (.ref r0), none] [] σ (KK g C S 43 16 [some (.ref r0), some (.int x1), some (.int x2)] [] Q false))) :
    WP g C S 43 7 [some (.ref r0), some (.int x1), some (.int x2)] [] σ Q := by
  refine r_g (pc' := 8) (ls' := [some (.ref r0), some (.int x1), some (.int x2)]) (st' := [.int x1]) dX4_setBase_7 (fun _ => rfl) ?_
  refine r_ic (v := 1) dX4_setBase_8 (by decide) ?_
  obtain ⟨h1, h2⟩ := h
  refine r_icmp (t := 19) dX4_setBase_9 (by decide) c_ne (fun c => ?_) (fun c => ?_)
  · have h := h1 c
    refine r_g (pc' := 20) (ls' := [some (.ref r0), some (.int x1), some (.int x2)]) (st' := [.int x1]) dX4_setBase_19 (fun _ => rfl) ?_
    refine r_ic (v := 2) dX4_setBase_20 (by decide) ?_
    obtain ⟨h1, h2⟩ := h
    refine r_icmp (t := 29) dX4_setBase_21 (by decide) c_ne (fun c => ?_) (fun c => ?_)
    · have h := h1 c
      exact h
    · have h := h2 c
      refine r_g (pc' := 25) (ls' := [some (.ref r0), some (.int x1), some (.int x2)]) (st' := [.ref r0]) dX4_setBase_24 (fun _ => rfl) ?_
      refine r_g (pc' := 26) (ls' := [some (.ref r0), some (.int x1), some (.int x2)]) (st' := [.int x2, .ref r0]) dX4_setBase_25 (fun _ => rfl) ?_
      obtain ⟨hK, h⟩ := h
      exact r_call (th := false) dX4_setBase_26 (fun _ => ex_calV rfl (by decide)) rfl (Nat.le_of_ble_eq_true rfl) (Nat.le_of_ble_eq_true rfl) (Nat.le_of_ble_eq_true rfl) (rcv0 rfl rfl (by decide) hK) rfl rfl rfl (fun q => nomatch q) h
  · have h := h2 c
    refine r_g (pc' := 13) (ls' := [some (.ref r0), some (.int x1), some (.int x2)]) (st' := [.ref r0]) dX4_setBase_12 (fun _ => rfl) ?_
    obtain ⟨hK, h⟩ := h
    exact r_call (th := false) dX4_setBase_13 (fun _ => ex_calV rfl (by decide)) rfl (Nat.le_of_ble_eq_true rfl) (Nat.le_of_ble_eq_true rfl) (Nat.le_of_ble_eq_true rfl) (rcv0 rfl rfl (by decide) hK) rfl rfl rfl (fun q => nomatch q) h
theorem b43_16 {g : Nat → Nat} {C S : Nat} {σ : PS} {Q : Rs → PS → Prop} {l0 : Option Value} {l1 : Option Value} {l2 : Option Value}
    (h : WP g C S 43 29 [l0, l1, l2] [] σ Q) :
    WP g C S 43 16 [l0, l1, l2] [] σ Q := by
  refine r_goto (t := 29) dX4_setBase_16 (by decide) ?_
  exact h
theorem b43_29 {g : Nat → Nat} {C S : Nat} {σ : PS} {Q : Rs → PS → Prop} {l0 : Option Value} {l1 : Option Value} {l2 : Option Value}
    (h : Q (Sum.inl none) σ) :
    WP g C S 43 29 [l0, l1, l2] [] σ Q := by
  exact r_vret dX4_setBase_29 rfl h
theorem b44_0 {g : Nat → Nat} {C S : Nat} {σ : PS} {Q : Rs → PS → Prop} {r0 : Nat} {l1 : Option Value}
    (h : zK σ r0 = 6 ∧ ∃ b1, zP σ r0 1 = some b1 ∧ (zK σ b1 = 5 ∧ WP g C S 19 0 [some (.ref b1)] [] σ (KK g C S 44 7 [some (.ref r0), l1] [] Q false))) :
    WP g C S 44 0 [some (.ref r0), l1] [] σ Q := by
  refine r_g (pc' := 1) (ls' := [some (.ref r0), l1]) (st' := [.ref r0]) dX4_addShortBase_0 (fun _ => rfl) ?_
  obtain ⟨hK, b1, hP, h⟩ := h
  refine r_getP dX4_addShortBase_1 rfl (by decide) rfl hK hP ?_
  obtain ⟨hK, h⟩ := h
  exact r_call (th := false) dX4_addShortBase_4 (fun _ => ex_calV rfl (by decide)) rfl (Nat.le_of_ble_eq_true rfl) (Nat.le_of_ble_eq_true rfl) (Nat.le_of_ble_eq_true rfl) (rcv0 rfl rfl (by decide) hK) rfl rfl rfl (fun q => nomatch q) h
theorem b44_7 {g : Nat → Nat} {C S : Nat} {σ : PS} {Q : Rs → PS → Prop} {r0 : Nat} {l1 : Option Value} {u0 : Int32}
    (h : (¬ (u0 : Int32) = 0 → zK σ r0 = 6 ∧ ∃ b1, zP σ r0 1 = some b1 ∧ (zK σ b1 = 5 ∧ WP g C S 19 0 [some (.ref b1)] [] σ (KK g C S 44 36 [some (.ref r0), l1] [] Q false))) ∧ (¬ (¬ (u0 : Int32) = 0) → zK σ r0 = 6 ∧ ∃ b2, zP σ r0 5 = some b2 ∧ (zK σ r0 = 6 ∧ ∃ b3, zP σ r0 0 = some b3 ∧ (zK σ b3 = 2 ∧ ∃ b4, zP σ b3 2 = some b4 ∧ (zK σ b2 = 7 ∧ WP g C S 61 0 [some (.ref b2), some (.ref b4), some (.int 0), some (.int 3), none] [] σ (KK g C S 44 26 [some (.ref r0), l1] [] Q false)))))) :
    WP g C S 44 7 [some (.ref r0), l1] [.int u0] σ Q := by
  obtain ⟨h1, h2⟩ := h
  refine r_if (t := 29) dX4_addShortBase_7 (by decide) c_ne (fun c => ?_) (fun c => ?_)
  · have h := h1 c
    refine r_g (pc' := 30) (ls' := [some (.ref r0), l1]) (st' := [.ref r0]) dX4_addShortBase_29 (fun _ => rfl) ?_
    obtain ⟨hK, b1, hP, h⟩ := h
    refine r_getP dX4_addShortBase_30 rfl (by decide) rfl hK hP ?_
    obtain ⟨hK, h⟩ := h
    exact r_call (th := false) dX4_addShortBase_33 (fun _ => ex_calV rfl (by decide)) rfl (Nat.le_of_ble_eq_true rfl) (Nat.le_of_ble_eq_true rfl) (Nat.le_of_ble_eq_true rfl) (rcv0 rfl rfl (by decide) hK) rfl rfl rfl (fun q => nomatch q) h
  · have h := h2 c
    refine r_g (pc' := 11) (ls' := [some (.ref r0), l1]) (st' := [.ref r0]) dX4_addShortBase_10 (fun _ => rfl) ?_
    obtain ⟨hK, b2, hP, h⟩ := h
    refine r_getP dX4_addShortBase_11 rfl (by decide) rfl hK hP ?_
    refine r_g (pc' := 15) (ls' := [some (.ref r0), l1]) (st' := [.ref r0, .ref b2]) dX4_addShortBase_14 (fun _ => rfl) ?_
    obtain ⟨hK, b3, hP, h⟩ := h
    refine r_getP dX4_addShortBase_15 rfl (by decide) rfl hK hP ?_
    obtain ⟨hK, b4, hP, h⟩ := h
    refine r_getP dX4_addShortBase_18 rfl (by decide) rfl hK hP ?_
    refine r_ic (v := 0) dX4_addShortBase_21 (by decide) ?_
    refine r_ic (v := 3) dX4_addShortBase_22 (by decide) ?_
    obtain ⟨hK, h⟩ := h
    exact r_call (th := false) dX4_addShortBase_23 (fun _ => ex_calV rfl (by decide)) rfl (Nat.le_of_ble_eq_true rfl) (Nat.le_of_ble_eq_true rfl) (Nat.le_of_ble_eq_true rfl) (rcv0 rfl rfl (by decide) hK) rfl rfl rfl (fun q => nomatch q) h
theorem b44_26 {g : Nat → Nat} {C S : Nat} {σ : PS} {Q : Rs → PS → Prop} {r0 : Nat} {l1 : Option Value}
    (h : WP g C S 44 74 [some (.ref r0), l1] [] σ Q) :
    WP g C S 44 26 [some (.ref r0), l1] [] σ Q := by
  refine r_goto (t := 74) dX4_addShortBase_26 (by decide) ?_
  exact h
theorem b44_36 {g : Nat → Nat} {C S : Nat} {σ : PS} {Q : Rs → PS → Prop} {r0 : Nat} {l1 : Option Value} {u0 : Int32}
    (h : (¬ (u0 : Int32) = 1 → zK σ r0 = 6 ∧ ∃ b1, zP σ r0 1 = some b1 ∧ (zK σ r0 = 6 ∧ ∃ b2, zP σ r0 5 = some b2 ∧ (zK σ b1 = 5 ∧ WP g C S 37 0 [some (.ref b1), some (.ref b2), none, none] [] σ (KK g C S 44 74 [some (.ref r0), l1] [] Q false)))) ∧ (¬ (¬ (u0 : Int32) = 1) → zK σ r0 = 6 ∧ ∃ b3, zP σ r0 1 = some b3 ∧ (zK σ r0 = 6 ∧ ∃ b4, zP σ r0 5 = some b4 ∧ (zK σ b3 = 5 ∧ WP g C S 32 0 [some (.ref b3), some (.int 0), some (.ref b4)] [] σ (KK g C S 44 52 [some (.ref r0), l1] [] Q false))))) :
    WP g C S 44 36 [some (.ref r0), l1] [.int u0] σ Q := by
  refine r_ic (v := 1) dX4_addShortBase_36 (by decide) ?_
  obtain ⟨h1, h2⟩ := h
  refine r_icmp (t := 63) dX4_addShortBase_37 (by decide) c_ne (fun c => ?_) (fun c => ?_)
  · have h := h1 c
    refine r_g (pc' := 64) (ls' := [some (.ref r0), l1]) (st' := [.ref r0]) dX4_addShortBase_63 (fun _ => rfl) ?_
    obtain ⟨hK, b1, hP, h⟩ := h
    refine r_getP dX4_addShortBase_64 rfl (by decide) rfl hK hP ?_
    refine r_g (pc' := 68) (ls' := [some (.ref r0), l1]) (st' := [.ref r0, .ref b1]) dX4_addShortBase_67 (fun _ => rfl) ?_
    obtain ⟨hK, b2, hP, h⟩ := h
    refine r_getP dX4_addShortBase_68 rfl (by decide) rfl hK hP ?_
    obtain ⟨hK, h⟩ := h
    exact r_call (th := false) dX4_addShortBase_71 (fun _ => ex_calV rfl (by decide)) rfl (Nat.le_of_ble_eq_true rfl) (Nat.le_of_ble_eq_true rfl) (Nat.le_of_ble_eq_true rfl) (rcv0 rfl rfl (by decide) hK) rfl rfl rfl (fun q => nomatch q) h
  · have h := h2 c
    refine r_g (pc' := 41) (ls' := [some (.ref r0), l1]) (st' := [.ref r0]) dX4_addShortBase_40 (fun _ => rfl) ?_
    obtain ⟨hK, b3, hP, h⟩ := h
    refine r_getP dX4_addShortBase_41 rfl (by decide) rfl hK hP ?_
    refine r_ic (v := 0) dX4_addShortBase_44 (by decide) ?_
    refine r_g (pc' := 46) (ls' := [some (.ref r0), l1]) (st' := [.ref r0, .int 0, .ref b3]) dX4_addShortBase_45 (fun _ => rfl) ?_
    obtain ⟨hK, b4, hP, h⟩ := h
    refine r_getP dX4_addShortBase_46 rfl (by decide) rfl hK hP ?_
    obtain ⟨hK, h⟩ := h
    exact r_call (th := false) dX4_addShortBase_49 (fun _ => ex_calV rfl (by decide)) rfl (Nat.le_of_ble_eq_true rfl) (Nat.le_of_ble_eq_true rfl) (Nat.le_of_ble_eq_true rfl) (rcv0 rfl rfl (by decide) hK) rfl rfl rfl (fun q => nomatch q) h
theorem b44_52 {g : Nat → Nat} {C S : Nat} {σ : PS} {Q : Rs → PS → Prop} {r0 : Nat} {l1 : Option Value}
    (h : zK σ r0 = 6 ∧ ∃ b1, zP σ r0 5 = some b1 ∧ (zK σ b1 = 7 ∧ WP g C S 58 0 [some (.ref b1), some (.int 3)] [] σ (KK g C S 44 60 [some (.ref r0), l1] [] Q false))) :
    WP g C S 44 52 [some (.ref r0), l1] [] σ Q := by
  refine r_g (pc' := 53) (ls' := [some (.ref r0), l1]) (st' := [.ref r0]) dX4_addShortBase_52 (fun _ => rfl) ?_
  obtain ⟨hK, b1, hP, h⟩ := h
  refine r_getP dX4_addShortBase_53 rfl (by decide) rfl hK hP ?_
  refine r_ic (v := 3) dX4_addShortBase_56 (by decide) ?_
  obtain ⟨hK, h⟩ := h
  exact r_call (th := false) dX4_addShortBase_57 (fun _ => ex_calV rfl (by decide)) rfl (Nat.le_of_ble_eq_true rfl) (Nat.le_of_ble_eq_true rfl) (Nat.le_of_ble_eq_true rfl) (rcv0 rfl rfl (by decide) hK) rfl rfl rfl (fun q => nomatch q) h
theorem b44_60 {g : Nat → Nat} {C S : Nat} {σ : PS} {Q : Rs → PS → Prop} {r0 : Nat} {l1 : Option Value}
    (h : WP g C S 44 74 [some (.ref r0), l1] [] σ Q) :
    WP g C S 44 60 [some (.ref r0), l1] [] σ Q := by
  refine r_goto (t := 74) dX4_addShortBase_60 (by decide) ?_
  exact h
theorem b44_74 {g : Nat → Nat} {C S : Nat} {σ : PS} {Q : Rs → PS → Prop} {r0 : Nat} {l1 : Option Value}
    (h : zK σ r0 = 6 ∧ ∃ b1, zP σ r0 0 = some b1 ∧ (zK σ b1 = 2 ∧ WP g C S 3 0 [some (.ref b1), some (.int 2), none, none, none, none] [] σ (KK g C S 44 82 [some (.ref r0), l1] [] Q false))) :
    WP g C S 44 74 [some (.ref r0), l1] [] σ Q := by
  refine r_g (pc' := 75) (ls' := [some (.ref r0), l1]) (st' := [.ref r0]) dX4_addShortBase_74 (fun _ => rfl) ?_
  obtain ⟨hK, b1, hP, h⟩ := h
  refine r_getP dX4_addShortBase_75 rfl (by decide) rfl hK hP ?_
  refine r_ic (v := 2) dX4_addShortBase_78 (by decide) ?_
  obtain ⟨hK, h⟩ := h
  exact r_call (th := false) dX4_addShortBase_79 (fun _ => ex_calV rfl (by decide)) rfl (Nat.le_of_ble_eq_true rfl) (Nat.le_of_ble_eq_true rfl) (Nat.le_of_ble_eq_true rfl) (rcv0 rfl rfl (by decide) hK) rfl rfl rfl (fun q => nomatch q) h
theorem b44_82 {g : Nat → Nat} {C S : Nat} {σ : PS} {Q : Rs → PS → Prop} {r0 : Nat} {l1 : Option Value} {w0 : Nat}
    (h : zK σ r0 = 6 ∧ ∃ b1, zP σ r0 5 = some b1 ∧ (zK σ w0 = 7 ∧ WP g C S 54 0 [some (.ref w0)] [] σ (KK g C S 44 92 [some (.ref r0), some (.ref w0)] [.ref w0, .ref b1] Q false))) :
    WP g C S 44 82 [some (.ref r0), l1] [.ref w0] σ Q := by
  refine r_g (pc' := 83) (ls' := [some (.ref r0), some (.ref w0)]) (st' := []) dX4_addShortBase_82 (fun _ => rfl) ?_
  refine r_g (pc' := 84) (ls' := [some (.ref r0), some (.ref w0)]) (st' := [.ref r0]) dX4_addShortBase_83 (fun _ => rfl) ?_
  obtain ⟨hK, b1, hP, h⟩ := h
  refine r_getP dX4_addShortBase_84 rfl (by decide) rfl hK hP ?_
  refine r_g (pc' := 88) (ls' := [some (.ref r0), some (.ref w0)]) (st' := [.ref w0, .ref b1]) dX4_addShortBase_87 (fun _ => rfl) ?_
  refine r_g (pc' := 89) (ls' := [some (.ref r0), some (.ref w0)]) (st' := [.ref w0, .ref w0, .ref b1]) dX4_addShortBase_88 (fun _ => rfl) ?_
  obtain ⟨hK, h⟩ := h
  exact r_call (th := false) dX4_addShortBase_89 (fun _ => ex_calV rfl (by decide)) rfl (Nat.le_of_ble_eq_true rfl) (Nat.le_of_ble_eq_true rfl) (Nat.le_of_ble_eq_true rfl) (rcv0 rfl rfl (by decide) hK) rfl rfl rfl (fun q => nomatch q) h
theorem b44_92 {g : Nat → Nat} {C S : Nat} {σ : PS} {Q : Rs → PS → Prop} {l0 : Option Value} {r1 : Nat} {u0 : Int32} {w1 : Nat} {w2 : Nat}
    (h : zK σ r1 = 7 ∧ WP g C S 54 0 [some (.ref r1)] [] σ (KK g C S 44 98 [l0, some (.ref r1)] [.int (u0 - 2), .ref w1, .ref w2] Q false)) :
    WP g C S 44 92 [l0, some (.ref r1)] [.int u0, .ref w1, .ref w2] σ Q := by
  refine r_ic (v := 2) dX4_addShortBase_92 (by decide) ?_
  refine r_g (pc' := 94) (ls' := [l0, some (.ref r1)]) (st' := [.int (u0 - 2), .ref w1, .ref w2]) dX4_addShortBase_93 (fun _ => rfl) ?_
  refine r_g (pc' := 95) (ls' := [l0, some (.ref r1)]) (st' := [.ref r1, .int (u0 - 2), .ref w1, .ref w2]) dX4_addShortBase_94 (fun _ => rfl) ?_
  obtain ⟨hK, h⟩ := h
  exact r_call (th := false) dX4_addShortBase_95 (fun _ => ex_calV rfl (by decide)) rfl (Nat.le_of_ble_eq_true rfl) (Nat.le_of_ble_eq_true rfl) (Nat.le_of_ble_eq_true rfl) (rcv0 rfl rfl (by decide) hK) rfl rfl rfl (fun q => nomatch q) h
theorem b44_98 {g : Nat → Nat} {C S : Nat} {σ : PS} {Q : Rs → PS → Prop} {l0 : Option Value} {l1 : Option Value} {u0 : Int32} {u1 : Int32} {w2 : Nat} {w3 : Nat}
    (h : zK σ w3 = 7 ∧ WP g C S 61 0 [some (.ref w3), some (.ref w2), some (.int u1), some (.int u0), none] [] σ (KK g C S 44 101 [l0, l1] [] Q false)) :
    WP g C S 44 98 [l0, l1] [.int u0, .int u1, .ref w2, .ref w3] σ Q := by
  obtain ⟨hK, h⟩ := h
  exact r_call (th := false) dX4_addShortBase_98 (fun _ => ex_calV rfl (by decide)) rfl (Nat.le_of_ble_eq_true rfl) (Nat.le_of_ble_eq_true rfl) (Nat.le_of_ble_eq_true rfl) (rcv0 rfl rfl (by decide) hK) rfl rfl rfl (fun q => nomatch q) h
theorem b44_101 {g : Nat → Nat} {C S : Nat} {σ : PS} {Q : Rs → PS → Prop} {l0 : Option Value} {l1 : Option Value}
    (h : Q (Sum.inl none) σ) :
    WP g C S 44 101 [l0, l1] [] σ Q := by
  exact r_vret dX4_addShortBase_101 rfl h
theorem b45_0 {g : Nat → Nat} {C S : Nat} {σ : PS} {Q : Rs → PS → Prop} {r0 : Nat} {x1 : Int32}
    (h : zK σ r0 = 6 ∧ ∃ b1, zP σ r0 1 = some b1 ∧ (zK σ b1 = 5 ∧ WP g C S 19 0 [some (.ref b1)] [] σ (KK g C S 45 7 [some (.ref r0), some (.int x1)] [] Q false))) :
    WP g C S 45 0 [some (.ref r0), some (.int x1)] [] σ Q := by
  refine r_g (pc' := 1) (ls' := [some (.ref r0), some (.int x1)]) (st' := [.ref r0]) dX4_addLongBase_0 (fun _ => rfl) ?_
  obtain ⟨hK, b1, hP, h⟩ := h
  refine r_getP dX4_addLongBase_1 rfl (by decide) rfl hK hP ?_
  obtain ⟨hK, h⟩ := h
  exact r_call (th := false) dX4_addLongBase_4 (fun _ => ex_calV rfl (by decide)) rfl (Nat.le_of_ble_eq_true rfl) (Nat.le_of_ble_eq_true rfl) (Nat.le_of_ble_eq_true rfl) (rcv0 rfl rfl (by decide) hK) rfl rfl rfl (fun q => nomatch q) h
theorem b45_7 {g : Nat → Nat} {C S : Nat} {σ : PS} {Q : Rs → PS → Prop} {r0 : Nat} {x1 : Int32} {u0 : Int32}
    (h : (¬ (u0 : Int32) = 0 → ((x1 : Int32) = 0 → WP g C S 45 62 [some (.ref r0), some (.int x1)] [] σ Q) ∧ (¬ ((x1 : Int32) = 0) → zK σ r0 = 6 ∧ ∃ b1, zP σ r0 1 = some b1 ∧ (zK σ b1 = 5 ∧ WP g C S 30 0 [some (.ref b1), some (.int 0)] [] σ (KK g C S 45 39 [some (.ref r0), some (.int x1)] [] Q false)))) ∧ (¬ (¬ (u0 : Int32) = 0) → zK σ r0 = 6 ∧ ∃ b2, zP σ r0 5 = some b2 ∧ (zK σ r0 = 6 ∧ ∃ b3, zP σ r0 0 = some b3 ∧ (zK σ b3 = 2 ∧ ∃ b4, zP σ b3 2 = some b4 ∧ (zK σ b2 = 7 ∧ WP g C S 60 0 [some (.ref b2), some (.ref b4)] [] σ (KK g C S 45 24 [some (.ref r0), some (.int x1)] [] Q false)))))) :
    WP g C S 45 7 [some (.ref r0), some (.int x1)] [.int u0] σ Q := by
  obtain ⟨h1, h2⟩ := h
  refine r_if (t := 27) dX4_addLongBase_7 (by decide) c_ne (fun c => ?_) (fun c => ?_)
  · have h := h1 c
    refine r_g (pc' := 28) (ls' := [some (.ref r0), some (.int x1)]) (st' := [.int x1]) dX4_addLongBase_27 (fun _ => rfl) ?_
    obtain ⟨h1, h2⟩ := h
    refine r_if (t := 62) dX4_addLongBase_28 (by decide) c_eq (fun c => ?_) (fun c => ?_)
    · have h := h1 c
      exact h
    · have h := h2 c
      refine r_g (pc' := 32) (ls' := [some (.ref r0), some (.int x1)]) (st' := [.ref r0]) dX4_addLongBase_31 (fun _ => rfl) ?_
      obtain ⟨hK, b1, hP, h⟩ := h
      refine r_getP dX4_addLongBase_32 rfl (by decide) rfl hK hP ?_
      refine r_ic (v := 0) dX4_addLongBase_35 (by decide) ?_
      obtain ⟨hK, h⟩ := h
      exact r_call (th := false) dX4_addLongBase_36 (fun _ => ex_calV rfl (by decide)) rfl (Nat.le_of_ble_eq_true rfl) (Nat.le_of_ble_eq_true rfl) (Nat.le_of_ble_eq_true rfl) (rcv0 rfl rfl (by decide) hK) rfl rfl rfl (fun q => nomatch q) h
  · have h := h2 c
    refine r_g (pc' := 11) (ls' := [some (.ref r0), some (.int x1)]) (st' := [.ref r0]) dX4_addLongBase_10 (fun _ => rfl) ?_
    obtain ⟨hK, b2, hP, h⟩ := h
    refine r_getP dX4_addLongBase_11 rfl (by decide) rfl hK hP ?_
    refine r_g (pc' := 15) (ls' := [some (.ref r0), some (.int x1)]) (st' := [.ref r0, .ref b2]) dX4_addLongBase_14 (fun _ => rfl) ?_
    obtain ⟨hK, b3, hP, h⟩ := h
    refine r_getP dX4_addLongBase_15 rfl (by decide) rfl hK hP ?_
    obtain ⟨hK, b4, hP, h⟩ := h
    refine r_getP dX4_addLongBase_18 rfl (by decide) rfl hK hP ?_
    obtain ⟨hK, h⟩ := h
    exact r_call (th := false) dX4_addLongBase_21 (fun _ => ex_calV rfl (by decide)) rfl (Nat.le_of_ble_eq_true rfl) (Nat.le_of_ble_eq_true rfl) (Nat.le_of_ble_eq_true rfl) (rcv0 rfl rfl (by decide) hK) rfl rfl rfl (fun q => nomatch q) h
theorem b45_24 {g : Nat → Nat} {C S : Nat} {σ : PS} {Q : Rs → PS → Prop} {r0 : Nat} {l1 : Option Value}
    (h : WP g C S 45 74 [some (.ref r0), l1] [] σ Q) :
    WP g C S 45 24 [some (.ref r0), l1] [] σ Q := by
  refine r_goto (t := 74) dX4_addLongBase_24 (by decide) ?_
  exact h
theorem b45_39 {g : Nat → Nat} {C S : Nat} {σ : PS} {Q : Rs → PS → Prop} {r0 : Nat} {l1 : Option Value} {u0 : Int32}
    (h : ((u0 : Int32) = 0 → WP g C S 45 62 [some (.ref r0), l1] [] σ Q) ∧ (¬ ((u0 : Int32) = 0) → zK σ r0 = 6 ∧ ∃ b1, zP σ r0 5 = some b1 ∧ (zK σ r0 = 6 ∧ ∃ b2, zP σ r0 4 = some b2 ∧ (zK σ b1 = 7 ∧ WP g C S 60 0 [some (.ref b1), some (.ref b2)] [] σ (KK g C S 45 53 [some (.ref r0), l1] [] Q false))))) :
    WP g C S 45 39 [some (.ref r0), l1] [.int u0] σ Q := by
  obtain ⟨h1, h2⟩ := h
  refine r_if (t := 62) dX4_addLongBase_39 (by decide) c_eq (fun c => ?_) (fun c => ?_)
  · have h := h1 c
    exact h
  · have h := h2 c
    refine r_g (pc' := 43) (ls' := [some (.ref r0), l1]) (st' := [.ref r0]) dX4_addLongBase_42 (fun _ => rfl) ?_
    obtain ⟨hK, b1, hP, h⟩ := h
    refine r_getP dX4_addLongBase_43 rfl (by decide) rfl hK hP ?_
    refine r_g (pc' := 47) (ls' := [some (.ref r0), l1]) (st' := [.ref r0, .ref b1]) dX4_addLongBase_46 (fun _ => rfl) ?_
    obtain ⟨hK, b2, hP, h⟩ := h
    refine r_getP dX4_addLongBase_47 rfl (by decide) rfl hK hP ?_
    obtain ⟨hK, h⟩ := h
    exact r_call (th := false) dX4_addLongBase_50 (fun _ => ex_calV rfl (by decide)) rfl (Nat.le_of_ble_eq_true rfl) (Nat.le_of_ble_eq_true rfl) (Nat.le_of_ble_eq_true rfl) (rcv0 rfl rfl (by decide) hK) rfl rfl rfl (fun q => nomatch q) h
theorem b45_53 {g : Nat → Nat} {C S : Nat} {σ : PS} {Q : Rs → PS → Prop} {r0 : Nat} {l1 : Option Value}
    (h : zK σ r0 = 6 ∧ ∃ b1, zP σ r0 5 = some b1 ∧ (zK σ b1 = 7 ∧ WP g C S 57 0 [some (.ref b1), some (.int 32), none] [] σ (KK g C S 45 62 [some (.ref r0), l1] [] Q false))) :
    WP g C S 45 53 [some (.ref r0), l1] [] σ Q := by
  refine r_g (pc' := 54) (ls' := [some (.ref r0), l1]) (st' := [.ref r0]) dX4_addLongBase_53 (fun _ => rfl) ?_
  obtain ⟨hK, b1, hP, h⟩ := h
  refine r_getP dX4_addLongBase_54 rfl (by decide) rfl hK hP ?_
  refine r_bi (v := 32) dX4_addLongBase_57 (by decide) ?_
  obtain ⟨hK, h⟩ := h
  exact r_call (th := false) dX4_addLongBase_59 (fun _ => ex_calV rfl (by decide)) rfl (Nat.le_of_ble_eq_true rfl) (Nat.le_of_ble_eq_true rfl) (Nat.le_of_ble_eq_true rfl) (rcv0 rfl rfl (by decide) hK) rfl rfl rfl (fun q => nomatch q) h
theorem b45_62 {g : Nat → Nat} {C S : Nat} {σ : PS} {Q : Rs → PS → Prop} {r0 : Nat} {l1 : Option Value}
    (h : zK σ r0 = 6 ∧ ∃ b1, zP σ r0 1 = some b1 ∧ (zK σ r0 = 6 ∧ ∃ b2, zP σ r0 5 = some b2 ∧ (zK σ b1 = 5 ∧ WP g C S 31 0 [some (.ref b1), some (.int 0), some (.ref b2)] [] σ (KK g C S 45 74 [some (.ref r0), l1] [] Q false)))) :
    WP g C S 45 62 [some (.ref r0), l1] [] σ Q := by
  refine r_g (pc' := 63) (ls' := [some (.ref r0), l1]) (st' := [.ref r0]) dX4_addLongBase_62 (fun _ => rfl) ?_
  obtain ⟨hK, b1, hP, h⟩ := h
  refine r_getP dX4_addLongBase_63 rfl (by decide) rfl hK hP ?_
  refine r_ic (v := 0) dX4_addLongBase_66 (by decide) ?_
  refine r_g (pc' := 68) (ls' := [some (.ref r0), l1]) (st' := [.ref r0, .int 0, .ref b1]) dX4_addLongBase_67 (fun _ => rfl) ?_
  obtain ⟨hK, b2, hP, h⟩ := h
  refine r_getP dX4_addLongBase_68 rfl (by decide) rfl hK hP ?_
  obtain ⟨hK, h⟩ := h
  exact r_call (th := false) dX4_addLongBase_71 (fun _ => ex_calV rfl (by decide)) rfl (Nat.le_of_ble_eq_true rfl) (Nat.le_of_ble_eq_true rfl) (Nat.le_of_ble_eq_true rfl) (rcv0 rfl rfl (by decide) hK) rfl rfl rfl (fun q => nomatch q) h
theorem b45_74 {g : Nat → Nat} {C S : Nat} {σ : PS} {Q : Rs → PS → Prop} {r0 : Nat} {l1 : Option Value}
    (h : zK σ r0 = 6 ∧ ∃ b1, zP σ r0 1 = some b1 ∧ (zK σ b1 = 5 ∧ WP g C S 19 0 [some (.ref b1)] [] σ (KK g C S 45 81 [some (.ref r0), l1] [] Q false))) :
    WP g C S 45 74 [some (.ref r0), l1] [] σ Q := by
  refine r_g (pc' := 75) (ls' := [some (.ref r0), l1]) (st' := [.ref r0]) dX4_addLongBase_74 (fun _ => rfl) ?_
  obtain ⟨hK, b1, hP, h⟩ := h
  refine r_getP dX4_addLongBase_75 rfl (by decide) rfl hK hP ?_
  obtain ⟨hK, h⟩ := h
  exact r_call (th := false) dX4_addLongBase_78 (fun _ => ex_calV rfl (by decide)) rfl (Nat.le_of_ble_eq_true rfl) (Nat.le_of_ble_eq_true rfl) (Nat.le_of_ble_eq_true rfl) (rcv0 rfl rfl (by decide) hK) rfl rfl rfl (fun q => nomatch q) h
theorem b45_81 {g : Nat → Nat} {C S : Nat} {σ : PS} {Q : Rs → PS → Prop} {r0 : Nat} {l1 : Option Value} {u0 : Int32}
    (h : (¬ (u0 : Int32) = 2 → zK σ r0 = 6 ∧ ∃ b1, zP σ r0 1 = some b1 ∧ (zK σ b1 = 5 ∧ WP g C S 19 0 [some (.ref b1)] [] σ (KK g C S 45 116 [some (.ref r0), l1] [] Q false))) ∧ (¬ (¬ (u0 : Int32) = 2) → zK σ r0 = 6 ∧ ∃ b2, zP σ r0 5 = some b2 ∧ (zK σ b2 = 7 ∧ WP g C S 59 0 [some (.ref b2), some (.ref (g 101)), none] [] σ (KK g C S 45 94 [some (.ref r0), l1] [] Q false)))) :
    WP g C S 45 81 [some (.ref r0), l1] [.int u0] σ Q := by
  refine r_ic (v := 2) dX4_addLongBase_81 (by decide) ?_
  obtain ⟨h1, h2⟩ := h
  refine r_icmp (t := 109) dX4_addLongBase_82 (by decide) c_ne (fun c => ?_) (fun c => ?_)
  · have h := h1 c
    refine r_g (pc' := 110) (ls' := [some (.ref r0), l1]) (st' := [.ref r0]) dX4_addLongBase_109 (fun _ => rfl) ?_
    obtain ⟨hK, b1, hP, h⟩ := h
    refine r_getP dX4_addLongBase_110 rfl (by decide) rfl hK hP ?_
    obtain ⟨hK, h⟩ := h
    exact r_call (th := false) dX4_addLongBase_113 (fun _ => ex_calV rfl (by decide)) rfl (Nat.le_of_ble_eq_true rfl) (Nat.le_of_ble_eq_true rfl) (Nat.le_of_ble_eq_true rfl) (rcv0 rfl rfl (by decide) hK) rfl rfl rfl (fun q => nomatch q) h
  · have h := h2 c
    refine r_g (pc' := 86) (ls' := [some (.ref r0), l1]) (st' := [.ref r0]) dX4_addLongBase_85 (fun _ => rfl) ?_
    obtain ⟨hK, b2, hP, h⟩ := h
    refine r_getP dX4_addLongBase_86 rfl (by decide) rfl hK hP ?_
    refine r_ldcS dX4_addLongBase_89 rfl ?_
    obtain ⟨hK, h⟩ := h
    exact r_call (th := false) dX4_addLongBase_91 (fun _ => ex_calV rfl (by decide)) rfl (Nat.le_of_ble_eq_true rfl) (Nat.le_of_ble_eq_true rfl) (Nat.le_of_ble_eq_true rfl) (rcv0 rfl rfl (by decide) hK) rfl rfl rfl (fun q => nomatch q) h
theorem b45_94 {g : Nat → Nat} {C S : Nat} {σ : PS} {Q : Rs → PS → Prop} {r0 : Nat} {l1 : Option Value}
    (h : zK σ r0 = 6 ∧ ∃ b1, zP σ r0 1 = some b1 ∧ (zK σ r0 = 6 ∧ ∃ b2, zP σ r0 5 = some b2 ∧ (zK σ b1 = 5 ∧ WP g C S 31 0 [some (.ref b1), some (.int 1), some (.ref b2)] [] σ (KK g C S 45 106 [some (.ref r0), l1] [] Q false)))) :
    WP g C S 45 94 [some (.ref r0), l1] [] σ Q := by
  refine r_g (pc' := 95) (ls' := [some (.ref r0), l1]) (st' := [.ref r0]) dX4_addLongBase_94 (fun _ => rfl) ?_
  obtain ⟨hK, b1, hP, h⟩ := h
  refine r_getP dX4_addLongBase_95 rfl (by decide) rfl hK hP ?_
  refine r_ic (v := 1) dX4_addLongBase_98 (by decide) ?_
  refine r_g (pc' := 100) (ls' := [some (.ref r0), l1]) (st' := [.ref r0, .int 1, .ref b1]) dX4_addLongBase_99 (fun _ => rfl) ?_
  obtain ⟨hK, b2, hP, h⟩ := h
  refine r_getP dX4_addLongBase_100 rfl (by decide) rfl hK hP ?_
  obtain ⟨hK, h⟩ := h
  exact r_call (th := false) dX4_addLongBase_103 (fun _ => ex_calV rfl (by decide)) rfl (Nat.le_of_ble_eq_true rfl) (Nat.le_of_ble_eq_true rfl) (Nat.le_of_ble_eq_true rfl) (rcv0 rfl rfl (by decide) hK) rfl rfl rfl (fun q => nomatch q) h
theorem b45_106 {g : Nat → Nat} {C S : Nat} {σ : PS} {Q : Rs → PS → Prop} {r0 : Nat} {l1 : Option Value}
    (h : WP g C S 45 129 [some (.ref r0), l1] [] σ Q) :
    WP g C S 45 106 [some (.ref r0), l1] [] σ Q := by
  refine r_goto (t := 129) dX4_addLongBase_106 (by decide) ?_
  exact h
theorem b45_116 {g : Nat → Nat} {C S : Nat} {σ : PS} {Q : Rs → PS → Prop} {r0 : Nat} {l1 : Option Value} {u0 : Int32}
    (h : ((u0 : Int32) ≤ 2 → WP g C S 45 129 [some (.ref r0), l1] [] σ Q) ∧ (¬ ((u0 : Int32) ≤ 2) → zK σ r0 = 6 ∧ ∃ b1, zP σ r0 5 = some b1 ∧ (zK σ b1 = 7 ∧ WP g C S 59 0 [some (.ref b1), some (.ref (g 102)), none] [] σ (KK g C S 45 129 [some (.ref r0), l1] [] Q false)))) :
    WP g C S 45 116 [some (.ref r0), l1] [.int u0] σ Q := by
  refine r_ic (v := 2) dX4_addLongBase_116 (by decide) ?_
  obtain ⟨h1, h2⟩ := h
  refine r_icmp (t := 129) dX4_addLongBase_117 (by decide) c_le (fun c => ?_) (fun c => ?_)
  · have h := h1 c
    exact h
  · have h := h2 c
    refine r_g (pc' := 121) (ls' := [some (.ref r0), l1]) (st' := [.ref r0]) dX4_addLongBase_120 (fun _ => rfl) ?_
    obtain ⟨hK, b1, hP, h⟩ := h
    refine r_getP dX4_addLongBase_121 rfl (by decide) rfl hK hP ?_
    refine r_ldcS dX4_addLongBase_124 rfl ?_
    obtain ⟨hK, h⟩ := h
    exact r_call (th := false) dX4_addLongBase_126 (fun _ => ex_calV rfl (by decide)) rfl (Nat.le_of_ble_eq_true rfl) (Nat.le_of_ble_eq_true rfl) (Nat.le_of_ble_eq_true rfl) (rcv0 rfl rfl (by decide) hK) rfl rfl rfl (fun q => nomatch q) h
theorem b45_129 {g : Nat → Nat} {C S : Nat} {σ : PS} {Q : Rs → PS → Prop} {r0 : Nat} {l1 : Option Value}
    (h : zK σ r0 = 6 ∧ ∃ b1, zP σ r0 0 = some b1 ∧ (zK σ b1 = 2 ∧ WP g C S 2 0 [some (.ref b1), some (.int 2)] [] σ (KK g C S 45 137 [some (.ref r0), l1] [] Q false))) :
    WP g C S 45 129 [some (.ref r0), l1] [] σ Q := by
  refine r_g (pc' := 130) (ls' := [some (.ref r0), l1]) (st' := [.ref r0]) dX4_addLongBase_129 (fun _ => rfl) ?_
  obtain ⟨hK, b1, hP, h⟩ := h
  refine r_getP dX4_addLongBase_130 rfl (by decide) rfl hK hP ?_
  refine r_ic (v := 2) dX4_addLongBase_133 (by decide) ?_
  obtain ⟨hK, h⟩ := h
  exact r_call (th := false) dX4_addLongBase_134 (fun _ => ex_calV rfl (by decide)) rfl (Nat.le_of_ble_eq_true rfl) (Nat.le_of_ble_eq_true rfl) (Nat.le_of_ble_eq_true rfl) (rcv0 rfl rfl (by decide) hK) rfl rfl rfl (fun q => nomatch q) h
theorem b45_137 {g : Nat → Nat} {C S : Nat} {σ : PS} {Q : Rs → PS → Prop} {r0 : Nat} {l1 : Option Value} {u0 : Int32}
    (h : ((u0 : Int32) = 0 → WP g C S 45 164 [some (.ref r0), l1] [] σ Q) ∧ (¬ ((u0 : Int32) = 0) → zK σ r0 = 6 ∧ ∃ b1, zP σ r0 5 = some b1 ∧ (zK σ b1 = 7 ∧ WP g C S 57 0 [some (.ref b1), some (.int 32), none] [] σ (KK g C S 45 149 [some (.ref r0), l1] [] Q false)))) :
    WP g C S 45 137 [some (.ref r0), l1] [.int u0] σ Q := by
  obtain ⟨h1, h2⟩ := h
  refine r_if (t := 164) dX4_addLongBase_137 (by decide) c_eq (fun c => ?_) (fun c => ?_)
  · have h := h1 c
    exact h
  · have h := h2 c
    refine r_g (pc' := 141) (ls' := [some (.ref r0), l1]) (st' := [.ref r0]) dX4_addLongBase_140 (fun _ => rfl) ?_
    obtain ⟨hK, b1, hP, h⟩ := h
    refine r_getP dX4_addLongBase_141 rfl (by decide) rfl hK hP ?_
    refine r_bi (v := 32) dX4_addLongBase_144 (by decide) ?_
    obtain ⟨hK, h⟩ := h
    exact r_call (th := false) dX4_addLongBase_146 (fun _ => ex_calV rfl (by decide)) rfl (Nat.le_of_ble_eq_true rfl) (Nat.le_of_ble_eq_true rfl) (Nat.le_of_ble_eq_true rfl) (rcv0 rfl rfl (by decide) hK) rfl rfl rfl (fun q => nomatch q) h
theorem b45_149 {g : Nat → Nat} {C S : Nat} {σ : PS} {Q : Rs → PS → Prop} {r0 : Nat} {l1 : Option Value}
    (h : zK σ r0 = 6 ∧ ∃ b1, zP σ r0 5 = some b1 ∧ (zK σ r0 = 6 ∧ ∃ b2, zP σ r0 0 = some b2 ∧ (zK σ b2 = 2 ∧ WP g C S 3 0 [some (.ref b2), some (.int 2), none, none, none, none] [] σ (KK g C S 45 161 [some (.ref r0), l1] [.ref b1] Q false)))) :
    WP g C S 45 149 [some (.ref r0), l1] [] σ Q := by
  refine r_g (pc' := 150) (ls' := [some (.ref r0), l1]) (st' := [.ref r0]) dX4_addLongBase_149 (fun _ => rfl) ?_
  obtain ⟨hK, b1, hP, h⟩ := h
  refine r_getP dX4_addLongBase_150 rfl (by decide) rfl hK hP ?_
  refine r_g (pc' := 154) (ls' := [some (.ref r0), l1]) (st' := [.ref r0, .ref b1]) dX4_addLongBase_153 (fun _ => rfl) ?_
  obtain ⟨hK, b2, hP, h⟩ := h
  refine r_getP dX4_addLongBase_154 rfl (by decide) rfl hK hP ?_
  refine r_ic (v := 2) dX4_addLongBase_157 (by decide) ?_
  obtain ⟨hK, h⟩ := h
  exact r_call (th := false) dX4_addLongBase_158 (fun _ => ex_calV rfl (by decide)) rfl (Nat.le_of_ble_eq_true rfl) (Nat.le_of_ble_eq_true rfl) (Nat.le_of_ble_eq_true rfl) (rcv0 rfl rfl (by decide) hK) rfl rfl rfl (fun q => nomatch q) h
theorem b45_161 {g : Nat → Nat} {C S : Nat} {σ : PS} {Q : Rs → PS → Prop} {l0 : Option Value} {l1 : Option Value} {w0 : Nat} {w1 : Nat}
    (h : zK σ w1 = 7 ∧ WP g C S 60 0 [some (.ref w1), some (.ref w0)] [] σ (KK g C S 45 164 [l0, l1] [] Q false)) :
    WP g C S 45 161 [l0, l1] [.ref w0, .ref w1] σ Q := by
  obtain ⟨hK, h⟩ := h
  exact r_call (th := false) dX4_addLongBase_161 (fun _ => ex_calV rfl (by decide)) rfl (Nat.le_of_ble_eq_true rfl) (Nat.le_of_ble_eq_true rfl) (Nat.le_of_ble_eq_true rfl) (rcv0 rfl rfl (by decide) hK) rfl rfl rfl (fun q => nomatch q) h
theorem b45_164 {g : Nat → Nat} {C S : Nat} {σ : PS} {Q : Rs → PS → Prop} {l0 : Option Value} {l1 : Option Value}
    (h : Q (Sum.inl none) σ) :
    WP g C S 45 164 [l0, l1] [] σ Q := by
  exact r_vret dX4_addLongBase_164 rfl h
theorem b46_0 {g : Nat → Nat} {C S : Nat} {σ : PS} {Q : Rs → PS → Prop} {r0 : Nat} {x1 : Int32} {x2 : Int32} {l3 : Option Value}
    (h : zK σ r0 = 6 ∧ ∃ b1, zP σ r0 7 = some b1 ∧ (zK σ b1 = 7 ∧ WP g C S 53 0 [some (.ref b1)] [] σ (KK g C S 46 7 [some (.ref r0), some (.int x1), some (.int x2), l3] [] Q false))) :
    WP g C S 46 0 [some (.ref r0), some (.int x1), some (.int x2), l3] [] σ Q := by
  refine r_g (pc' := 1) (ls' := [some (.ref r0), some (.int x1), some (.int x2), l3]) (st' := [.ref r0]) dX4_writeText_0 (fun _ => rfl) ?_
  obtain ⟨hK, b1, hP, h⟩ := h
  refine r_getP dX4_writeText_1 rfl (by decide) rfl hK hP ?_
  obtain ⟨hK, h⟩ := h
  exact r_call (th := false) dX4_writeText_4 (fun _ => ex_calV rfl (by decide)) rfl (Nat.le_of_ble_eq_true rfl) (Nat.le_of_ble_eq_true rfl) (Nat.le_of_ble_eq_true rfl) (rcv0 rfl rfl (by decide) hK) rfl rfl rfl (fun q => nomatch q) h
theorem b46_7 {g : Nat → Nat} {C S : Nat} {σ : PS} {Q : Rs → PS → Prop} {r0 : Nat} {x1 : Int32} {x2 : Int32} {l3 : Option Value}
    (h : zK σ r0 = 6 ∧ WP g C S 47 0 [some (.ref r0), some (.int x1), some (.int x2)] [] σ (KK g C S 46 13 [some (.ref r0), some (.int x1), some (.int x2), l3] [] Q false)) :
    WP g C S 46 7 [some (.ref r0), some (.int x1), some (.int x2), l3] [] σ Q := by
  refine r_g (pc' := 8) (ls' := [some (.ref r0), some (.int x1), some (.int x2), l3]) (st' := [.ref r0]) dX4_writeText_7 (fun _ => rfl) ?_
  refine r_g (pc' := 9) (ls' := [some (.ref r0), some (.int x1), some (.int x2), l3]) (st' := [.int x1, .ref r0]) dX4_writeText_8 (fun _ => rfl) ?_
  refine r_g (pc' := 10) (ls' := [some (.ref r0), some (.int x1), some (.int x2), l3]) (st' := [.int x2, .int x1, .ref r0]) dX4_writeText_9 (fun _ => rfl) ?_
  obtain ⟨hK, h⟩ := h
  exact r_call (th := false) dX4_writeText_10 (fun _ => ex_calV rfl (by decide)) rfl (Nat.le_of_ble_eq_true rfl) (Nat.le_of_ble_eq_true rfl) (Nat.le_of_ble_eq_true rfl) (rcv0 rfl rfl (by decide) hK) rfl rfl rfl (fun q => nomatch q) h
theorem b46_13 {g : Nat → Nat} {C S : Nat} {σ : PS} {Q : Rs → PS → Prop} {r0 : Nat} {l1 : Option Value} {l2 : Option Value} {l3 : Option Value}
    (h : zK σ r0 = 6 ∧ ∃ b1, zP σ r0 7 = some b1 ∧ (zK σ b1 = 7 ∧ WP g C S 54 0 [some (.ref b1)] [] σ (KK g C S 46 20 [some (.ref r0), l1, l2, l3] [] Q false))) :
    WP g C S 46 13 [some (.ref r0), l1, l2, l3] [] σ Q := by
  refine r_g (pc' := 14) (ls' := [some (.ref r0), l1, l2, l3]) (st' := [.ref r0]) dX4_writeText_13 (fun _ => rfl) ?_
  obtain ⟨hK, b1, hP, h⟩ := h
  refine r_getP dX4_writeText_14 rfl (by decide) rfl hK hP ?_
  obtain ⟨hK, h⟩ := h
  exact r_call (th := false) dX4_writeText_17 (fun _ => ex_calV rfl (by decide)) rfl (Nat.le_of_ble_eq_true rfl) (Nat.le_of_ble_eq_true rfl) (Nat.le_of_ble_eq_true rfl) (rcv0 rfl rfl (by decide) hK) rfl rfl rfl (fun q => nomatch q) h
theorem b46_20 {g : Nat → Nat} {C S : Nat} {σ : PS} {Q : Rs → PS → Prop} {r0 : Nat} {l1 : Option Value} {l2 : Option Value} {l3 : Option Value} {u0 : Int32}
    (h : zK σ r0 = 6 ∧ ∃ b1, zP σ r0 1 = some b1 ∧ (zK σ b1 = 5 ∧ WP g C S 19 0 [some (.ref b1)] [] σ (KK g C S 46 28 [some (.ref r0), l1, (clr l2), some (.int u0)] [] Q false))) :
    WP g C S 46 20 [some (.ref r0), l1, l2, l3] [.int u0] σ Q := by
  refine r_g (pc' := 21) (ls' := [some (.ref r0), l1, (clr l2), some (.int u0)]) (st' := []) dX4_writeText_20 (fun _ => rfl) ?_
  refine r_g (pc' := 22) (ls' := [some (.ref r0), l1, (clr l2), some (.int u0)]) (st' := [.ref r0]) dX4_writeText_21 (fun _ => rfl) ?_
  obtain ⟨hK, b1, hP, h⟩ := h
  refine r_getP dX4_writeText_22 rfl (by decide) rfl hK hP ?_
  obtain ⟨hK, h⟩ := h
  exact r_call (th := false) dX4_writeText_25 (fun _ => ex_calV rfl (by decide)) rfl (Nat.le_of_ble_eq_true rfl) (Nat.le_of_ble_eq_true rfl) (Nat.le_of_ble_eq_true rfl) (rcv0 rfl rfl (by decide) hK) rfl rfl rfl (fun q => nomatch q) h
theorem b46_28 {g : Nat → Nat} {C S : Nat} {σ : PS} {Q : Rs → PS → Prop} {r0 : Nat} {l1 : Option Value} {l2 : Option Value} {x3 : Int32} {u0 : Int32}
    (h : ((u0 : Int32) ≤ 0 → WP g C S 46 47 [some (.ref r0), l1, l2, some (.int x3)] [] σ Q) ∧ (¬ ((u0 : Int32) ≤ 0) → zK σ r0 = 6 ∧ WP g C S 48 0 [some (.ref r0), some (.int x3)] [] σ (KK g C S 46 36 [some (.ref r0), l1, l2, some (.int x3)] [] Q false))) :
    WP g C S 46 28 [some (.ref r0), l1, l2, some (.int x3)] [.int u0] σ Q := by
  obtain ⟨h1, h2⟩ := h
  refine r_if (t := 47) dX4_writeText_28 (by decide) c_le (fun c => ?_) (fun c => ?_)
  · have h := h1 c
    exact h
  · have h := h2 c
    refine r_g (pc' := 32) (ls' := [some (.ref r0), l1, l2, some (.int x3)]) (st' := [.ref r0]) dX4_writeText_31 (fun _ => rfl) ?_
    refine r_g (pc' := 33) (ls' := [some (.ref r0), l1, l2, some (.int x3)]) (st' := [.int x3, .ref r0]) dX4_writeText_32 (fun _ => rfl) ?_
    obtain ⟨hK, h⟩ := h
    exact r_call (th := false) dX4_writeText_33 (fun _ => ex_calV rfl (by decide)) rfl (Nat.le_of_ble_eq_true rfl) (Nat.le_of_ble_eq_true rfl) (Nat.le_of_ble_eq_true rfl) (rcv0 rfl rfl (by decide) hK) rfl rfl rfl (fun q => nomatch q) h
theorem b46_36 {g : Nat → Nat} {C S : Nat} {σ : PS} {Q : Rs → PS → Prop} {r0 : Nat} {l1 : Option Value} {l2 : Option Value} {x3 : Int32}
    (h : zK σ r0 = 6 ∧ ∃ b1, zP σ r0 1 = some b1 ∧ (zK σ r0 = 6 ∧ ∃ b2, zP σ r0 7 = some b2 ∧ (zK σ b1 = 5 ∧ WP g C S 36 0 [some (.ref b1), some (.ref b2), none, none] [] σ (KK g C S 46 47 [some (.ref r0), l1, l2, some (.int x3)] [] Q false)))) :
    WP g C S 46 36 [some (.ref r0), l1, l2, some (.int x3)] [] σ Q := by
  refine r_g (pc' := 37) (ls' := [some (.ref r0), l1, l2, some (.int x3)]) (st' := [.ref r0]) dX4_writeText_36 (fun _ => rfl) ?_
  obtain ⟨hK, b1, hP, h⟩ := h
  refine r_getP dX4_writeText_37 rfl (by decide) rfl hK hP ?_
  refine r_g (pc' := 41) (ls' := [some (.ref r0), l1, l2, some (.int x3)]) (st' := [.ref r0, .ref b1]) dX4_writeText_40 (fun _ => rfl) ?_
  obtain ⟨hK, b2, hP, h⟩ := h
  refine r_getP dX4_writeText_41 rfl (by decide) rfl hK hP ?_
  obtain ⟨hK, h⟩ := h
  exact r_call (th := false) dX4_writeText_44 (fun _ => ex_calV rfl (by decide)) rfl (Nat.le_of_ble_eq_true rfl) (Nat.le_of_ble_eq_true rfl) (Nat.le_of_ble_eq_true rfl) (rcv0 rfl rfl (by decide) hK) rfl rfl rfl (fun q => nomatch q) h
theorem b46_47 {g : Nat → Nat} {C S : Nat} {σ : PS} {Q : Rs → PS → Prop} {r0 : Nat} {l1 : Option Value} {l2 : Option Value} {x3 : Int32}
    (h : zK σ r0 = 6 ∧ WP g C S 49 0 [some (.ref r0), some (.int 1), some (.ref (g 106)), some (.int x3)] [] σ (KK g C S 46 55 [some (.ref r0), l1, l2, some (.int x3)] [] Q false)) :
    WP g C S 46 47 [some (.ref r0), l1, l2, some (.int x3)] [] σ Q := by
  refine r_g (pc' := 48) (ls' := [some (.ref r0), l1, l2, some (.int x3)]) (st' := [.ref r0]) dX4_writeText_47 (fun _ => rfl) ?_
  refine r_ic (v := 1) dX4_writeText_48 (by decide) ?_
  refine r_ldcS dX4_writeText_49 rfl ?_
  refine r_g (pc' := 52) (ls' := [some (.ref r0), l1, l2, some (.int x3)]) (st' := [.int x3, .ref (g 106), .int 1, .ref r0]) dX4_writeText_51 (fun _ => rfl) ?_
  obtain ⟨hK, h⟩ := h
  exact r_call (th := false) dX4_writeText_52 (fun _ => ex_calV rfl (by decide)) rfl (Nat.le_of_ble_eq_true rfl) (Nat.le_of_ble_eq_true rfl) (Nat.le_of_ble_eq_true rfl) (rcv0 rfl rfl (by decide) hK) rfl rfl rfl (fun q => nomatch q) h
theorem b46_55 {g : Nat → Nat} {C S : Nat} {σ : PS} {Q : Rs → PS → Prop} {r0 : Nat} {l1 : Option Value} {l2 : Option Value} {x3 : Int32}
    (h : zK σ r0 = 6 ∧ WP g C S 50 0 [some (.ref r0), some (.int x3)] [] σ (KK g C S 46 60 [some (.ref r0), l1, l2, some (.int x3)] [] Q false)) :
    WP g C S 46 55 [some (.ref r0), l1, l2, some (.int x3)] [] σ Q := by
  refine r_g (pc' := 56) (ls' := [some (.ref r0), l1, l2, some (.int x3)]) (st' := [.ref r0]) dX4_writeText_55 (fun _ => rfl) ?_
  refine r_g (pc' := 57) (ls' := [some (.ref r0), l1, l2, some (.int x3)]) (st' := [.int x3, .ref r0]) dX4_writeText_56 (fun _ => rfl) ?_
  obtain ⟨hK, h⟩ := h
  exact r_call (th := false) dX4_writeText_57 (fun _ => ex_calV rfl (by decide)) rfl (Nat.le_of_ble_eq_true rfl) (Nat.le_of_ble_eq_true rfl) (Nat.le_of_ble_eq_true rfl) (rcv0 rfl rfl (by decide) hK) rfl rfl rfl (fun q => nomatch q) h
theorem b46_60 {g : Nat → Nat} {C S : Nat} {σ : PS} {Q : Rs → PS → Prop} {r0 : Nat} {l1 : Option Value} {l2 : Option Value} {x3 : Int32}
    (h : zK σ r0 = 6 ∧ WP g C S 49 0 [some (.ref r0), some (.int 2), some (.ref (g 106)), some (.int x3)] [] σ (KK g C S 46 68 [some (.ref r0), l1, l2, some (.int x3)] [] Q false)) :
    WP g C S 46 60 [some (.ref r0), l1, l2, some (.int x3)] [] σ Q := by
  refine r_g (pc' := 61) (ls' := [some (.ref r0), l1, l2, some (.int x3)]) (st' := [.ref r0]) dX4_writeText_60 (fun _ => rfl) ?_
  refine r_ic (v := 2) dX4_writeText_61 (by decide) ?_
  refine r_ldcS dX4_writeText_62 rfl ?_
  refine r_g (pc' := 65) (ls' := [some (.ref r0), l1, l2, some (.int x3)]) (st' := [.int x3, .ref (g 106), .int 2, .ref r0]) dX4_writeText_64 (fun _ => rfl) ?_
  obtain ⟨hK, h⟩ := h
  exact r_call (th := false) dX4_writeText_65 (fun _ => ex_calV rfl (by decide)) rfl (Nat.le_of_ble_eq_true rfl) (Nat.le_of_ble_eq_true rfl) (Nat.le_of_ble_eq_true rfl) (rcv0 rfl rfl (by decide) hK) rfl rfl rfl (fun q => nomatch q) h
theorem b46_68 {g : Nat → Nat} {C S : Nat} {σ : PS} {Q : Rs → PS → Prop} {r0 : Nat} {l1 : Option Value} {l2 : Option Value} {x3 : Int32}
    (h : zK σ r0 = 6 ∧ ∃ b1, zP σ r0 7 = some b1 ∧ (zK σ b1 = 7 ∧ WP g C S 54 0 [some (.ref b1)] [] σ (KK g C S 46 75 [some (.ref r0), l1, l2, some (.int x3)] [] Q false))) :
    WP g C S 46 68 [some (.ref r0), l1, l2, some (.int x3)] [] σ Q := by
  refine r_g (pc' := 69) (ls' := [some (.ref r0), l1, l2, some (.int x3)]) (st' := [.ref r0]) dX4_writeText_68 (fun _ => rfl) ?_
  obtain ⟨hK, b1, hP, h⟩ := h
  refine r_getP dX4_writeText_69 rfl (by decide) rfl hK hP ?_
  obtain ⟨hK, h⟩ := h
  exact r_call (th := false) dX4_writeText_72 (fun _ => ex_calV rfl (by decide)) rfl (Nat.le_of_ble_eq_true rfl) (Nat.le_of_ble_eq_true rfl) (Nat.le_of_ble_eq_true rfl) (rcv0 rfl rfl (by decide) hK) rfl rfl rfl (fun q => nomatch q) h
theorem b46_75 {g : Nat → Nat} {C S : Nat} {σ : PS} {Q : Rs → PS → Prop} {r0 : Nat} {l1 : Option Value} {l2 : Option Value} {x3 : Int32} {u0 : Int32}
    (h : ((u0 : Int32) ≤ x3 → WP g C S 46 88 [some (.ref r0), l1, l2, some (.int x3)] [] σ Q) ∧ (¬ ((u0 : Int32) ≤ x3) → zK σ r0 = 6 ∧ ∃ b1, zP σ r0 7 = some b1 ∧ (zK σ b1 = 7 ∧ WP g C S 57 0 [some (.ref b1), some (.int 46), none] [] σ (KK g C S 46 88 [some (.ref r0), l1, l2, some (.int x3)] [] Q false)))) :
    WP g C S 46 75 [some (.ref r0), l1, l2, some (.int x3)] [.int u0] σ Q := by
  refine r_g (pc' := 76) (ls' := [some (.ref r0), l1, l2, some (.int x3)]) (st' := [.int x3, .int u0]) dX4_writeText_75 (fun _ => rfl) ?_
  obtain ⟨h1, h2⟩ := h
  refine r_icmp (t := 88) dX4_writeText_76 (by decide) c_le (fun c => ?_) (fun c => ?_)
  · have h := h1 c
    exact h
  · have h := h2 c
    refine r_g (pc' := 80) (ls' := [some (.ref r0), l1, l2, some (.int x3)]) (st' := [.ref r0]) dX4_writeText_79 (fun _ => rfl) ?_
    obtain ⟨hK, b1, hP, h⟩ := h
    refine r_getP dX4_writeText_80 rfl (by decide) rfl hK hP ?_
    refine r_bi (v := 46) dX4_writeText_83 (by decide) ?_
    obtain ⟨hK, h⟩ := h
    exact r_call (th := false) dX4_writeText_85 (fun _ => ex_calV rfl (by decide)) rfl (Nat.le_of_ble_eq_true rfl) (Nat.le_of_ble_eq_true rfl) (Nat.le_of_ble_eq_true rfl) (rcv0 rfl rfl (by decide) hK) rfl rfl rfl (fun q => nomatch q) h
theorem b46_88 {g : Nat → Nat} {C S : Nat} {σ : PS} {Q : Rs → PS → Prop} {l0 : Option Value} {l1 : Option Value} {l2 : Option Value} {l3 : Option Value}
    (h : Q (Sum.inl none) σ) :
    WP g C S 46 88 [l0, l1, l2, l3] [] σ Q := by
  exact r_vret dX4_writeText_88 rfl h
theorem b47_0 {g : Nat → Nat} {C S : Nat} {σ : PS} {Q : Rs → PS → Prop} {r0 : Nat} {x1 : Int32} {x2 : Int32}
    (h : zK σ r0 = 6 ∧ ∃ b1, zP σ r0 7 = some b1 ∧ ((¬ (x1 : Int32) = 2 → WP g C S 47 16 [some (.ref r0), some (.int x1), some (.int x2)] [.int 91, .ref b1] σ Q) ∧ (¬ (¬ (x1 : Int32) = 2) → WP g C S 47 16 [some (.ref r0), some (.int x1), some (.int x2)] [.int 40, .ref b1] σ Q))) :
    WP g C S 47 0 [some (.ref r0), some (.int x1), some (.int x2)] [] σ Q := by
  refine r_g (pc' := 1) (ls' := [some (.ref r0), some (.int x1), some (.int x2)]) (st' := [.ref r0]) dX4_addLabel_0 (fun _ => rfl) ?_
  obtain ⟨hK, b1, hP, h⟩ := h
  refine r_getP dX4_addLabel_1 rfl (by decide) rfl hK hP ?_
  refine r_g (pc' := 5) (ls' := [some (.ref r0), some (.int x1), some (.int x2)]) (st' := [.int x1, .ref b1]) dX4_addLabel_4 (fun _ => rfl) ?_
  refine r_ic (v := 2) dX4_addLabel_5 (by decide) ?_
  obtain ⟨h1, h2⟩ := h
  refine r_icmp (t := 14) dX4_addLabel_6 (by decide) c_ne (fun c => ?_) (fun c => ?_)
  · have h := h1 c
    refine r_bi (v := 91) dX4_addLabel_14 (by decide) ?_
    exact h
  · have h := h2 c
    refine r_bi (v := 40) dX4_addLabel_9 (by decide) ?_
    refine r_goto (t := 16) dX4_addLabel_11 (by decide) ?_
    exact h
theorem b47_16 {g : Nat → Nat} {C S : Nat} {σ : PS} {Q : Rs → PS → Prop} {r0 : Nat} {x1 : Int32} {x2 : Int32} {u0 : Int32} {w1 : Nat}
    (h : zK σ w1 = 7 ∧ WP g C S 57 0 [some (.ref w1), some (.int u0), none] [] σ (KK g C S 47 19 [some (.ref r0), some (.int x1), some (.int x2)] [] Q false)) :
    WP g C S 47 16 [some (.ref r0), some (.int x1), some (.int x2)] [.int u0, .ref w1] σ Q := by
  obtain ⟨hK, h⟩ := h
  exact r_call (th := false) dX4_addLabel_16 (fun _ => ex_calV rfl (by decide)) rfl (Nat.le_of_ble_eq_true rfl) (Nat.le_of_ble_eq_true rfl) (Nat.le_of_ble_eq_true rfl) (rcv0 rfl rfl (by decide) hK) rfl rfl rfl (fun q => nomatch q) h
theorem b47_19 {g : Nat → Nat} {C S : Nat} {σ : PS} {Q : Rs → PS → Prop} {r0 : Nat} {x1 : Int32} {x2 : Int32}
    (h : ((x1 : Int32) = 1 → WP g C S 47 29 [some (.ref r0), some (.int x1), some (.int x2)] [] σ Q) ∧ (¬ ((x1 : Int32) = 1) → (¬ (x1 : Int32) = 2 → zK σ r0 = 6 ∧ ∃ b1, zP σ r0 7 = some b1 ∧ (zK σ b1 = 7 ∧ WP g C S 62 0 [some (.ref b1), some (.int (x2 + 1))] [] σ (KK g C S 47 76 [some (.ref r0), some (.int x1), some (.int x2)] [] Q false))) ∧ (¬ (¬ (x1 : Int32) = 2) → WP g C S 47 29 [some (.ref r0), some (.int x1), some (.int x2)] [] σ Q))) :
    WP g C S 47 19 [some (.ref r0), some (.int x1), some (.int x2)] [] σ Q := by
  refine r_g (pc' := 20) (ls' := [some (.ref r0), some (.int x1), some (.int x2)]) (st' := [.int x1]) dX4_addLabel_19 (fun _ => rfl) ?_
  refine r_ic (v := 1) dX4_addLabel_20 (by decide) ?_
  obtain ⟨h1, h2⟩ := h
  refine r_icmp (t := 29) dX4_addLabel_21 (by decide) c_eq (fun c => ?_) (fun c => ?_)
  · have h := h1 c
    exact h
  · have h := h2 c
    refine r_g (pc' := 25) (ls' := [some (.ref r0), some (.int x1), some (.int x2)]) (st' := [.int x1]) dX4_addLabel_24 (fun _ => rfl) ?_
    refine r_ic (v := 2) dX4_addLabel_25 (by decide) ?_
    obtain ⟨h1, h2⟩ := h
    refine r_icmp (t := 66) dX4_addLabel_26 (by decide) c_ne (fun c => ?_) (fun c => ?_)
    · have h := h1 c
      refine r_g (pc' := 67) (ls' := [some (.ref r0), some (.int x1), some (.int x2)]) (st' := [.ref r0]) dX4_addLabel_66 (fun _ => rfl) ?_
      obtain ⟨hK, b1, hP, h⟩ := h
      refine r_getP dX4_addLabel_67 rfl (by decide) rfl hK hP ?_
      refine r_g (pc' := 71) (ls' := [some (.ref r0), some (.int x1), some (.int x2)]) (st' := [.int x2, .ref b1]) dX4_addLabel_70 (fun _ => rfl) ?_
      refine r_ic (v := 1) dX4_addLabel_71 (by decide) ?_
      refine r_g (pc' := 73) (ls' := [some (.ref r0), some (.int x1), some (.int x2)]) (st' := [.int (x2 + 1), .ref b1]) dX4_addLabel_72 (fun _ => rfl) ?_
      obtain ⟨hK, h⟩ := h
      exact r_call (th := false) dX4_addLabel_73 (fun _ => ex_calV rfl (by decide)) rfl (Nat.le_of_ble_eq_true rfl) (Nat.le_of_ble_eq_true rfl) (Nat.le_of_ble_eq_true rfl) (rcv0 rfl rfl (by decide) hK) rfl rfl rfl (fun q => nomatch q) h
    · have h := h2 c
      exact h
theorem b47_29 {g : Nat → Nat} {C S : Nat} {σ : PS} {Q : Rs → PS → Prop} {r0 : Nat} {x1 : Int32} {l2 : Option Value}
    (h : zK σ r0 = 6 ∧ ∃ b1, zP σ r0 7 = some b1 ∧ (zK σ r0 = 6 ∧ ∃ b2, zP σ r0 5 = some b2 ∧ (zK σ b1 = 7 ∧ WP g C S 60 0 [some (.ref b1), some (.ref b2)] [] σ (KK g C S 47 40 [some (.ref r0), some (.int x1), l2] [] Q false)))) :
    WP g C S 47 29 [some (.ref r0), some (.int x1), l2] [] σ Q := by
  refine r_g (pc' := 30) (ls' := [some (.ref r0), some (.int x1), l2]) (st' := [.ref r0]) dX4_addLabel_29 (fun _ => rfl) ?_
  obtain ⟨hK, b1, hP, h⟩ := h
  refine r_getP dX4_addLabel_30 rfl (by decide) rfl hK hP ?_
  refine r_g (pc' := 34) (ls' := [some (.ref r0), some (.int x1), l2]) (st' := [.ref r0, .ref b1]) dX4_addLabel_33 (fun _ => rfl) ?_
  obtain ⟨hK, b2, hP, h⟩ := h
  refine r_getP dX4_addLabel_34 rfl (by decide) rfl hK hP ?_
  obtain ⟨hK, h⟩ := h
  exact r_call (th := false) dX4_addLabel_37 (fun _ => ex_calV rfl (by decide)) rfl (Nat.le_of_ble_eq_true rfl) (Nat.le_of_ble_eq_true rfl) (Nat.le_of_ble_eq_true rfl) (rcv0 rfl rfl (by decide) hK) rfl rfl rfl (fun q => nomatch q) h
theorem b47_40 {g : Nat → Nat} {C S : Nat} {σ : PS} {Q : Rs → PS → Prop} {r0 : Nat} {x1 : Int32} {l2 : Option Value}
    (h : zK σ r0 = 6 ∧ ((zI σ r0 6 : Int32) ≤ 0 → WP g C S 47 76 [some (.ref r0), some (.int x1), l2] [] σ Q) ∧ (¬ ((zI σ r0 6 : Int32) ≤ 0) → zK σ r0 = 6 ∧ ∃ b1, zP σ r0 7 = some b1 ∧ (zK σ r0 = 6 ∧ zK σ b1 = 7 ∧ WP g C S 57 0 [some (.ref b1), some (.int ((97 + (zI σ r0 6)) - 1)), none] [] σ (KK g C S 47 63 [some (.ref r0), some (.int x1), l2] [] Q false)))) :
    WP g C S 47 40 [some (.ref r0), some (.int x1), l2] [] σ Q := by
  refine r_g (pc' := 41) (ls' := [some (.ref r0), some (.int x1), l2]) (st' := [.ref r0]) dX4_addLabel_40 (fun _ => rfl) ?_
  obtain ⟨hK, h⟩ := h
  refine r_getI dX4_addLabel_41 rfl (by decide) rfl hK ?_
  obtain ⟨h1, h2⟩ := h
  refine r_if (t := 76) dX4_addLabel_44 (by decide) c_le (fun c => ?_) (fun c => ?_)
  · have h := h1 c
    exact h
  · have h := h2 c
    refine r_g (pc' := 48) (ls' := [some (.ref r0), some (.int x1), l2]) (st' := [.ref r0]) dX4_addLabel_47 (fun _ => rfl) ?_
    obtain ⟨hK, b1, hP, h⟩ := h
    refine r_getP dX4_addLabel_48 rfl (by decide) rfl hK hP ?_
    refine r_bi (v := 97) dX4_addLabel_51 (by decide) ?_
    refine r_g (pc' := 54) (ls' := [some (.ref r0), some (.int x1), l2]) (st' := [.ref r0, .int 97, .ref b1]) dX4_addLabel_53 (fun _ => rfl) ?_
    obtain ⟨hK, h⟩ := h
    refine r_getI dX4_addLabel_54 rfl (by decide) rfl hK ?_
    refine r_g (pc' := 58) (ls' := [some (.ref r0), some (.int x1), l2]) (st' := [.int (97 + (zI σ r0 6)), .ref b1]) dX4_addLabel_57 (fun _ => rfl) ?_
    refine r_ic (v := 1) dX4_addLabel_58 (by decide) ?_
    refine r_g (pc' := 60) (ls' := [some (.ref r0), some (.int x1), l2]) (st' := [.int ((97 + (zI σ r0 6)) - 1), .ref b1]) dX4_addLabel_59 (fun _ => rfl) ?_
    obtain ⟨hK, h⟩ := h
    exact r_call (th := false) dX4_addLabel_60 (fun _ => ex_calV rfl (by decide)) rfl (Nat.le_of_ble_eq_true rfl) (Nat.le_of_ble_eq_true rfl) (Nat.le_of_ble_eq_true rfl) (rcv0 rfl rfl (by decide) hK) rfl rfl rfl (fun q => nomatch q) h
theorem b47_63 {g : Nat → Nat} {C S : Nat} {σ : PS} {Q : Rs → PS → Prop} {r0 : Nat} {x1 : Int32} {l2 : Option Value}
    (h : WP g C S 47 76 [some (.ref r0), some (.int x1), l2] [] σ Q) :
    WP g C S 47 63 [some (.ref r0), some (.int x1), l2] [] σ Q := by
  refine r_goto (t := 76) dX4_addLabel_63 (by decide) ?_
  exact h
theorem b47_76 {g : Nat → Nat} {C S : Nat} {σ : PS} {Q : Rs → PS → Prop} {r0 : Nat} {x1 : Int32} {l2 : Option Value}
    (h : zK σ r0 = 6 ∧ ∃ b1, zP σ r0 7 = some b1 ∧ ((¬ (x1 : Int32) = 2 → WP g C S 47 92 [some (.ref r0), some (.int x1), l2] [.int 93, .ref b1] σ Q) ∧ (¬ (¬ (x1 : Int32) = 2) → WP g C S 47 92 [some (.ref r0), some (.int x1), l2] [.int 41, .ref b1] σ Q))) :
    WP g C S 47 76 [some (.ref r0), some (.int x1), l2] [] σ Q := by
  refine r_g (pc' := 77) (ls' := [some (.ref r0), some (.int x1), l2]) (st' := [.ref r0]) dX4_addLabel_76 (fun _ => rfl) ?_
  obtain ⟨hK, b1, hP, h⟩ := h
  refine r_getP dX4_addLabel_77 rfl (by decide) rfl hK hP ?_
  refine r_g (pc' := 81) (ls' := [some (.ref r0), some (.int x1), l2]) (st' := [.int x1, .ref b1]) dX4_addLabel_80 (fun _ => rfl) ?_
  refine r_ic (v := 2) dX4_addLabel_81 (by decide) ?_
  obtain ⟨h1, h2⟩ := h
  refine r_icmp (t := 90) dX4_addLabel_82 (by decide) c_ne (fun c => ?_) (fun c => ?_)
  · have h := h1 c
    refine r_bi (v := 93) dX4_addLabel_90 (by decide) ?_
    exact h
  · have h := h2 c
    refine r_bi (v := 41) dX4_addLabel_85 (by decide) ?_
    refine r_goto (t := 92) dX4_addLabel_87 (by decide) ?_
    exact h
theorem b47_92 {g : Nat → Nat} {C S : Nat} {σ : PS} {Q : Rs → PS → Prop} {l0 : Option Value} {l1 : Option Value} {l2 : Option Value} {u0 : Int32} {w1 : Nat}
    (h : zK σ w1 = 7 ∧ WP g C S 57 0 [some (.ref w1), some (.int u0), none] [] σ (KK g C S 47 95 [l0, l1, l2] [] Q false)) :
    WP g C S 47 92 [l0, l1, l2] [.int u0, .ref w1] σ Q := by
  obtain ⟨hK, h⟩ := h
  exact r_call (th := false) dX4_addLabel_92 (fun _ => ex_calV rfl (by decide)) rfl (Nat.le_of_ble_eq_true rfl) (Nat.le_of_ble_eq_true rfl) (Nat.le_of_ble_eq_true rfl) (rcv0 rfl rfl (by decide) hK) rfl rfl rfl (fun q => nomatch q) h
theorem b47_95 {g : Nat → Nat} {C S : Nat} {σ : PS} {Q : Rs → PS → Prop} {l0 : Option Value} {l1 : Option Value} {l2 : Option Value}
    (h : Q (Sum.inl none) σ) :
    WP g C S 47 95 [l0, l1, l2] [] σ Q := by
  exact r_vret dX4_addLabel_95 rfl h
theorem b48_0 {g : Nat → Nat} {C S : Nat} {σ : PS} {Q : Rs → PS → Prop} {r0 : Nat} {x1 : Int32}
    (h : zK σ r0 = 6 ∧ ∃ b1, zP σ r0 7 = some b1 ∧ (zK σ r0 = 6 ∧ ∃ b2, zP σ r0 7 = some b2 ∧ (zK σ b2 = 7 ∧ WP g C S 54 0 [some (.ref b2)] [] σ (KK g C S 48 11 [some (.ref r0), some (.int x1)] [.ref b1] Q false)))) :
    WP g C S 48 0 [some (.ref r0), some (.int x1)] [] σ Q := by
  refine r_g (pc' := 1) (ls' := [some (.ref r0), some (.int x1)]) (st' := [.ref r0]) dX4_beginPiece_0 (fun _ => rfl) ?_
  obtain ⟨hK, b1, hP, h⟩ := h
  refine r_getP dX4_beginPiece_1 rfl (by decide) rfl hK hP ?_
  refine r_g (pc' := 5) (ls' := [some (.ref r0), some (.int x1)]) (st' := [.ref r0, .ref b1]) dX4_beginPiece_4 (fun _ => rfl) ?_
  obtain ⟨hK, b2, hP, h⟩ := h
  refine r_getP dX4_beginPiece_5 rfl (by decide) rfl hK hP ?_
  obtain ⟨hK, h⟩ := h
  exact r_call (th := false) dX4_beginPiece_8 (fun _ => ex_calV rfl (by decide)) rfl (Nat.le_of_ble_eq_true rfl) (Nat.le_of_ble_eq_true rfl) (Nat.le_of_ble_eq_true rfl) (rcv0 rfl rfl (by decide) hK) rfl rfl rfl (fun q => nomatch q) h
theorem b48_11 {g : Nat → Nat} {C S : Nat} {σ : PS} {Q : Rs → PS → Prop} {l0 : Option Value} {x1 : Int32} {u0 : Int32} {w1 : Nat}
    (h : ((u0 : Int32) ≤ x1 → WP g C S 48 22 [l0, some (.int x1)] [.ref (g 104), .ref w1] σ Q) ∧ (¬ ((u0 : Int32) ≤ x1) → WP g C S 48 22 [l0, some (.int x1)] [.ref (g 103), .ref w1] σ Q)) :
    WP g C S 48 11 [l0, some (.int x1)] [.int u0, .ref w1] σ Q := by
  refine r_g (pc' := 12) (ls' := [l0, some (.int x1)]) (st' := [.int x1, .int u0, .ref w1]) dX4_beginPiece_11 (fun _ => rfl) ?_
  obtain ⟨h1, h2⟩ := h
  refine r_icmp (t := 20) dX4_beginPiece_12 (by decide) c_le (fun c => ?_) (fun c => ?_)
  · have h := h1 c
    refine r_ldcS dX4_beginPiece_20 rfl ?_
    exact h
  · have h := h2 c
    refine r_ldcS dX4_beginPiece_15 rfl ?_
    refine r_goto (t := 22) dX4_beginPiece_17 (by decide) ?_
    exact h
theorem b48_22 {g : Nat → Nat} {C S : Nat} {σ : PS} {Q : Rs → PS → Prop} {l0 : Option Value} {l1 : Option Value} {w0 : Nat} {w1 : Nat}
    (h : zK σ w1 = 7 ∧ WP g C S 59 0 [some (.ref w1), some (.ref w0), none] [] σ (KK g C S 48 25 [l0, l1] [] Q false)) :
    WP g C S 48 22 [l0, l1] [.ref w0, .ref w1] σ Q := by
  obtain ⟨hK, h⟩ := h
  exact r_call (th := false) dX4_beginPiece_22 (fun _ => ex_calV rfl (by decide)) rfl (Nat.le_of_ble_eq_true rfl) (Nat.le_of_ble_eq_true rfl) (Nat.le_of_ble_eq_true rfl) (rcv0 rfl rfl (by decide) hK) rfl rfl rfl (fun q => nomatch q) h
theorem b48_25 {g : Nat → Nat} {C S : Nat} {σ : PS} {Q : Rs → PS → Prop} {l0 : Option Value} {l1 : Option Value}
    (h : Q (Sum.inl none) σ) :
    WP g C S 48 25 [l0, l1] [] σ Q := by
  exact r_vret dX4_beginPiece_25 rfl h
theorem b49_0 {g : Nat → Nat} {C S : Nat} {σ : PS} {Q : Rs → PS → Prop} {r0 : Nat} {x1 : Int32} {r2 : Nat} {x3 : Int32}
    (h : zK σ r0 = 6 ∧ ∃ b1, zP σ r0 0 = some b1 ∧ (zK σ b1 = 2 ∧ WP g C S 2 0 [some (.ref b1), some (.int x1)] [] σ (KK g C S 49 8 [some (.ref r0), some (.int x1), some (.ref r2), some (.int x3)] [] Q false))) :
    WP g C S 49 0 [some (.ref r0), some (.int x1), some (.ref r2), some (.int x3)] [] σ Q := by
  refine r_g (pc' := 1) (ls' := [some (.ref r0), some (.int x1), some (.ref r2), some (.int x3)]) (st' := [.ref r0]) dX4_addValuePiece_0 (fun _ => rfl) ?_
  obtain ⟨hK, b1, hP, h⟩ := h
  refine r_getP dX4_addValuePiece_1 rfl (by decide) rfl hK hP ?_
  refine r_g (pc' := 5) (ls' := [some (.ref r0), some (.int x1), some (.ref r2), some (.int x3)]) (st' := [.int x1, .ref b1]) dX4_addValuePiece_4 (fun _ => rfl) ?_
  obtain ⟨hK, h⟩ := h
  exact r_call (th := false) dX4_addValuePiece_5 (fun _ => ex_calV rfl (by decide)) rfl (Nat.le_of_ble_eq_true rfl) (Nat.le_of_ble_eq_true rfl) (Nat.le_of_ble_eq_true rfl) (rcv0 rfl rfl (by decide) hK) rfl rfl rfl (fun q => nomatch q) h
theorem b49_8 {g : Nat → Nat} {C S : Nat} {σ : PS} {Q : Rs → PS → Prop} {r0 : Nat} {x1 : Int32} {r2 : Nat} {x3 : Int32} {u0 : Int32}
    (h : ((u0 : Int32) = 0 → WP g C S 49 39 [some (.ref r0), some (.int x1), some (.ref r2), some (.int x3)] [] σ Q) ∧ (¬ ((u0 : Int32) = 0) → zK σ r0 = 6 ∧ WP g C S 48 0 [some (.ref r0), some (.int x3)] [] σ (KK g C S 49 16 [some (.ref r0), some (.int x1), some (.ref r2), some (.int x3)] [] Q false))) :
    WP g C S 49 8 [some (.ref r0), some (.int x1), some (.ref r2), some (.int x3)] [.int u0] σ Q := by
  obtain ⟨h1, h2⟩ := h
  refine r_if (t := 39) dX4_addValuePiece_8 (by decide) c_eq (fun c => ?_) (fun c => ?_)
  · have h := h1 c
    exact h
  · have h := h2 c
    refine r_g (pc' := 12) (ls' := [some (.ref r0), some (.int x1), some (.ref r2), some (.int x3)]) (st' := [.ref r0]) dX4_addValuePiece_11 (fun _ => rfl) ?_
    refine r_g (pc' := 13) (ls' := [some (.ref r0), some (.int x1), some (.ref r2), some (.int x3)]) (st' := [.int x3, .ref r0]) dX4_addValuePiece_12 (fun _ => rfl) ?_
    obtain ⟨hK, h⟩ := h
    exact r_call (th := false) dX4_addValuePiece_13 (fun _ => ex_calV rfl (by decide)) rfl (Nat.le_of_ble_eq_true rfl) (Nat.le_of_ble_eq_true rfl) (Nat.le_of_ble_eq_true rfl) (rcv0 rfl rfl (by decide) hK) rfl rfl rfl (fun q => nomatch q) h
theorem b49_16 {g : Nat → Nat} {C S : Nat} {σ : PS} {Q : Rs → PS → Prop} {r0 : Nat} {x1 : Int32} {r2 : Nat} {l3 : Option Value}
    (h : zK σ r0 = 6 ∧ ∃ b1, zP σ r0 7 = some b1 ∧ (zK σ b1 = 7 ∧ WP g C S 59 0 [some (.ref b1), some (.ref r2), none] [] σ (KK g C S 49 24 [some (.ref r0), some (.int x1), some (.ref r2), l3] [] Q false))) :
    WP g C S 49 16 [some (.ref r0), some (.int x1), some (.ref r2), l3] [] σ Q := by
  refine r_g (pc' := 17) (ls' := [some (.ref r0), some (.int x1), some (.ref r2), l3]) (st' := [.ref r0]) dX4_addValuePiece_16 (fun _ => rfl) ?_
  obtain ⟨hK, b1, hP, h⟩ := h
  refine r_getP dX4_addValuePiece_17 rfl (by decide) rfl hK hP ?_
  refine r_g (pc' := 21) (ls' := [some (.ref r0), some (.int x1), some (.ref r2), l3]) (st' := [.ref r2, .ref b1]) dX4_addValuePiece_20 (fun _ => rfl) ?_
  obtain ⟨hK, h⟩ := h
  exact r_call (th := false) dX4_addValuePiece_21 (fun _ => ex_calV rfl (by decide)) rfl (Nat.le_of_ble_eq_true rfl) (Nat.le_of_ble_eq_true rfl) (Nat.le_of_ble_eq_true rfl) (rcv0 rfl rfl (by decide) hK) rfl rfl rfl (fun q => nomatch q) h
theorem b49_24 {g : Nat → Nat} {C S : Nat} {σ : PS} {Q : Rs → PS → Prop} {r0 : Nat} {x1 : Int32} {l2 : Option Value} {l3 : Option Value}
    (h : zK σ r0 = 6 ∧ ∃ b1, zP σ r0 7 = some b1 ∧ (zK σ r0 = 6 ∧ ∃ b2, zP σ r0 0 = some b2 ∧ (zK σ b2 = 2 ∧ WP g C S 3 0 [some (.ref b2), some (.int x1), none, none, none, none] [] σ (KK g C S 49 36 [some (.ref r0), some (.int x1), l2, l3] [.ref b1] Q false)))) :
    WP g C S 49 24 [some (.ref r0), some (.int x1), l2, l3] [] σ Q := by
  refine r_g (pc' := 25) (ls' := [some (.ref r0), some (.int x1), l2, l3]) (st' := [.ref r0]) dX4_addValuePiece_24 (fun _ => rfl) ?_
  obtain ⟨hK, b1, hP, h⟩ := h
  refine r_getP dX4_addValuePiece_25 rfl (by decide) rfl hK hP ?_
  refine r_g (pc' := 29) (ls' := [some (.ref r0), some (.int x1), l2, l3]) (st' := [.ref r0, .ref b1]) dX4_addValuePiece_28 (fun _ => rfl) ?_
  obtain ⟨hK, b2, hP, h⟩ := h
  refine r_getP dX4_addValuePiece_29 rfl (by decide) rfl hK hP ?_
  refine r_g (pc' := 33) (ls' := [some (.ref r0), some (.int x1), l2, l3]) (st' := [.int x1, .ref b2, .ref b1]) dX4_addValuePiece_32 (fun _ => rfl) ?_
  obtain ⟨hK, h⟩ := h
  exact r_call (th := false) dX4_addValuePiece_33 (fun _ => ex_calV rfl (by decide)) rfl (Nat.le_of_ble_eq_true rfl) (Nat.le_of_ble_eq_true rfl) (Nat.le_of_ble_eq_true rfl) (rcv0 rfl rfl (by decide) hK) rfl rfl rfl (fun q => nomatch q) h
theorem b49_36 {g : Nat → Nat} {C S : Nat} {σ : PS} {Q : Rs → PS → Prop} {l0 : Option Value} {l1 : Option Value} {l2 : Option Value} {l3 : Option Value} {w0 : Nat} {w1 : Nat}
    (h : zK σ w1 = 7 ∧ WP g C S 60 0 [some (.ref w1), some (.ref w0)] [] σ (KK g C S 49 39 [l0, l1, l2, l3] [] Q false)) :
    WP g C S 49 36 [l0, l1, l2, l3] [.ref w0, .ref w1] σ Q := by
  obtain ⟨hK, h⟩ := h
  exact r_call (th := false) dX4_addValuePiece_36 (fun _ => ex_calV rfl (by decide)) rfl (Nat.le_of_ble_eq_true rfl) (Nat.le_of_ble_eq_true rfl) (Nat.le_of_ble_eq_true rfl) (rcv0 rfl rfl (by decide) hK) rfl rfl rfl (fun q => nomatch q) h
theorem b49_39 {g : Nat → Nat} {C S : Nat} {σ : PS} {Q : Rs → PS → Prop} {l0 : Option Value} {l1 : Option Value} {l2 : Option Value} {l3 : Option Value}
    (h : Q (Sum.inl none) σ) :
    WP g C S 49 39 [l0, l1, l2, l3] [] σ Q := by
  exact r_vret dX4_addValuePiece_39 rfl h
theorem b50_0 {g : Nat → Nat} {C S : Nat} {σ : PS} {Q : Rs → PS → Prop} {r0 : Nat} {x1 : Int32}
    (h : zK σ r0 = 6 ∧ ∃ b1, zP σ r0 0 = some b1 ∧ (zK σ b1 = 2 ∧ (¬ (zI σ b1 1 : Int32) = 0 → zK σ r0 = 6 ∧ ∃ b2, zP σ r0 0 = some b2 ∧ (zK σ b2 = 2 ∧ (¬ (zI σ b2 1 : Int32) = 2 → zK σ r0 = 6 ∧ ∃ b3, zP σ r0 0 = some b3 ∧ (zK σ b3 = 2 ∧ (¬ (zI σ b3 1 : Int32) = 4 → WP g C S 50 77 [some (.ref r0), some (.int x1)] [.int 4, .ref r0] σ Q) ∧ (¬ (¬ (zI σ b3 1 : Int32) = 4) → WP g C S 50 77 [some (.ref r0), some (.int x1)] [.int 7, .ref r0] σ Q))) ∧ (¬ (¬ (zI σ b2 1 : Int32) = 2) → zK σ r0 = 6 ∧ WP g C S 49 0 [some (.ref r0), some (.int 6), some (.ref (g 107)), some (.int x1)] [] σ (KK g C S 50 48 [some (.ref r0), some (.int x1)] [] Q false)))) ∧ (¬ (¬ (zI σ b1 1 : Int32) = 0) → zK σ r0 = 6 ∧ WP g C S 49 0 [some (.ref r0), some (.int 3), some (.ref (g 106)), some (.int x1)] [] σ (KK g C S 50 18 [some (.ref r0), some (.int x1)] [] Q false)))) :
    WP g C S 50 0 [some (.ref r0), some (.int x1)] [] σ Q := by
  refine r_g (pc' := 1) (ls' := [some (.ref r0), some (.int x1)]) (st' := [.ref r0]) dX4_addSource_0 (fun _ => rfl) ?_
  obtain ⟨hK, b1, hP, h⟩ := h
  refine r_getP dX4_addSource_1 rfl (by decide) rfl hK hP ?_
  obtain ⟨hK, h⟩ := h
  refine r_getI dX4_addSource_4 rfl (by decide) rfl hK ?_
  obtain ⟨h1, h2⟩ := h
  refine r_if (t := 28) dX4_addSource_7 (by decide) c_ne (fun c => ?_) (fun c => ?_)
  · have h := h1 c
    refine r_g (pc' := 29) (ls' := [some (.ref r0), some (.int x1)]) (st' := [.ref r0]) dX4_addSource_28 (fun _ => rfl) ?_
    obtain ⟨hK, b2, hP, h⟩ := h
    refine r_getP dX4_addSource_29 rfl (by decide) rfl hK hP ?_
    obtain ⟨hK, h⟩ := h
    refine r_getI dX4_addSource_32 rfl (by decide) rfl hK ?_
    refine r_ic (v := 2) dX4_addSource_35 (by decide) ?_
    obtain ⟨h1, h2⟩ := h
    refine r_icmp (t := 59) dX4_addSource_36 (by decide) c_ne (fun c => ?_) (fun c => ?_)
    · have h := h1 c
      refine r_g (pc' := 60) (ls' := [some (.ref r0), some (.int x1)]) (st' := [.ref r0]) dX4_addSource_59 (fun _ => rfl) ?_
      refine r_g (pc' := 61) (ls' := [some (.ref r0), some (.int x1)]) (st' := [.ref r0, .ref r0]) dX4_addSource_60 (fun _ => rfl) ?_
      obtain ⟨hK, b3, hP, h⟩ := h
      refine r_getP dX4_addSource_61 rfl (by decide) rfl hK hP ?_
      obtain ⟨hK, h⟩ := h
      refine r_getI dX4_addSource_64 rfl (by decide) rfl hK ?_
      refine r_ic (v := 4) dX4_addSource_67 (by decide) ?_
      obtain ⟨h1, h2⟩ := h
      refine r_icmp (t := 76) dX4_addSource_68 (by decide) c_ne (fun c => ?_) (fun c => ?_)
      · have h := h1 c
        refine r_ic (v := 4) dX4_addSource_76 (by decide) ?_
        exact h
      · have h := h2 c
        refine r_bi (v := 7) dX4_addSource_71 (by decide) ?_
        refine r_goto (t := 77) dX4_addSource_73 (by decide) ?_
        exact h
    · have h := h2 c
      refine r_g (pc' := 40) (ls' := [some (.ref r0), some (.int x1)]) (st' := [.ref r0]) dX4_addSource_39 (fun _ => rfl) ?_
      refine r_bi (v := 6) dX4_addSource_40 (by decide) ?_
      refine r_ldcS dX4_addSource_42 rfl ?_
      refine r_g (pc' := 45) (ls' := [some (.ref r0), some (.int x1)]) (st' := [.int x1, .ref (g 107), .int 6, .ref r0]) dX4_addSource_44 (fun _ => rfl) ?_
      obtain ⟨hK, h⟩ := h
      exact r_call (th := false) dX4_addSource_45 (fun _ => ex_calV rfl (by decide)) rfl (Nat.le_of_ble_eq_true rfl) (Nat.le_of_ble_eq_true rfl) (Nat.le_of_ble_eq_true rfl) (rcv0 rfl rfl (by decide) hK) rfl rfl rfl (fun q => nomatch q) h
  · have h := h2 c
    refine r_g (pc' := 11) (ls' := [some (.ref r0), some (.int x1)]) (st' := [.ref r0]) dX4_addSource_10 (fun _ => rfl) ?_
    refine r_ic (v := 3) dX4_addSource_11 (by decide) ?_
    refine r_ldcS dX4_addSource_12 rfl ?_
    refine r_g (pc' := 15) (ls' := [some (.ref r0), some (.int x1)]) (st' := [.int x1, .ref (g 106), .int 3, .ref r0]) dX4_addSource_14 (fun _ => rfl) ?_
    obtain ⟨hK, h⟩ := h
    exact r_call (th := false) dX4_addSource_15 (fun _ => ex_calV rfl (by decide)) rfl (Nat.le_of_ble_eq_true rfl) (Nat.le_of_ble_eq_true rfl) (Nat.le_of_ble_eq_true rfl) (rcv0 rfl rfl (by decide) hK) rfl rfl rfl (fun q => nomatch q) h
theorem b50_18 {g : Nat → Nat} {C S : Nat} {σ : PS} {Q : Rs → PS → Prop} {r0 : Nat} {l1 : Option Value}
    (h : zK σ r0 = 6 ∧ WP g C S 51 0 [some (.ref r0), some (.int 3), some (.ref (g 105))] [] σ (KK g C S 50 25 [some (.ref r0), l1] [] Q false)) :
    WP g C S 50 18 [some (.ref r0), l1] [] σ Q := by
  refine r_g (pc' := 19) (ls' := [some (.ref r0), l1]) (st' := [.ref r0]) dX4_addSource_18 (fun _ => rfl) ?_
  refine r_ic (v := 3) dX4_addSource_19 (by decide) ?_
  refine r_ldcS dX4_addSource_20 rfl ?_
  obtain ⟨hK, h⟩ := h
  exact r_call (th := false) dX4_addSource_22 (fun _ => ex_calV rfl (by decide)) rfl (Nat.le_of_ble_eq_true rfl) (Nat.le_of_ble_eq_true rfl) (Nat.le_of_ble_eq_true rfl) (rcv0 rfl rfl (by decide) hK) rfl rfl rfl (fun q => nomatch q) h
theorem b50_25 {g : Nat → Nat} {C S : Nat} {σ : PS} {Q : Rs → PS → Prop} {l0 : Option Value} {l1 : Option Value}
    (h : WP g C S 50 83 [l0, l1] [] σ Q) :
    WP g C S 50 25 [l0, l1] [] σ Q := by
  refine r_goto (t := 83) dX4_addSource_25 (by decide) ?_
  exact h
theorem b50_48 {g : Nat → Nat} {C S : Nat} {σ : PS} {Q : Rs → PS → Prop} {r0 : Nat} {l1 : Option Value}
    (h : zK σ r0 = 6 ∧ WP g C S 51 0 [some (.ref r0), some (.int 6), some (.ref (g 108))] [] σ (KK g C S 50 56 [some (.ref r0), l1] [] Q false)) :
    WP g C S 50 48 [some (.ref r0), l1] [] σ Q := by
  refine r_g (pc' := 49) (ls' := [some (.ref r0), l1]) (st' := [.ref r0]) dX4_addSource_48 (fun _ => rfl) ?_
  refine r_bi (v := 6) dX4_addSource_49 (by decide) ?_
  refine r_ldcS dX4_addSource_51 rfl ?_
  obtain ⟨hK, h⟩ := h
  exact r_call (th := false) dX4_addSource_53 (fun _ => ex_calV rfl (by decide)) rfl (Nat.le_of_ble_eq_true rfl) (Nat.le_of_ble_eq_true rfl) (Nat.le_of_ble_eq_true rfl) (rcv0 rfl rfl (by decide) hK) rfl rfl rfl (fun q => nomatch q) h
theorem b50_56 {g : Nat → Nat} {C S : Nat} {σ : PS} {Q : Rs → PS → Prop} {l0 : Option Value} {l1 : Option Value}
    (h : WP g C S 50 83 [l0, l1] [] σ Q) :
    WP g C S 50 56 [l0, l1] [] σ Q := by
  refine r_goto (t := 83) dX4_addSource_56 (by decide) ?_
  exact h
theorem b50_77 {g : Nat → Nat} {C S : Nat} {σ : PS} {Q : Rs → PS → Prop} {l0 : Option Value} {x1 : Int32} {u0 : Int32} {w1 : Nat}
    (h : zK σ w1 = 6 ∧ WP g C S 49 0 [some (.ref w1), some (.int u0), some (.ref (g 106)), some (.int x1)] [] σ (KK g C S 50 83 [l0, some (.int x1)] [] Q false)) :
    WP g C S 50 77 [l0, some (.int x1)] [.int u0, .ref w1] σ Q := by
  refine r_ldcS dX4_addSource_77 rfl ?_
  refine r_g (pc' := 80) (ls' := [l0, some (.int x1)]) (st' := [.int x1, .ref (g 106), .int u0, .ref w1]) dX4_addSource_79 (fun _ => rfl) ?_
  obtain ⟨hK, h⟩ := h
  exact r_call (th := false) dX4_addSource_80 (fun _ => ex_calV rfl (by decide)) rfl (Nat.le_of_ble_eq_true rfl) (Nat.le_of_ble_eq_true rfl) (Nat.le_of_ble_eq_true rfl) (rcv0 rfl rfl (by decide) hK) rfl rfl rfl (fun q => nomatch q) h
theorem b50_83 {g : Nat → Nat} {C S : Nat} {σ : PS} {Q : Rs → PS → Prop} {l0 : Option Value} {l1 : Option Value}
    (h : Q (Sum.inl none) σ) :
    WP g C S 50 83 [l0, l1] [] σ Q := by
  exact r_vret dX4_addSource_83 rfl h
theorem b51_0 {g : Nat → Nat} {C S : Nat} {σ : PS} {Q : Rs → PS → Prop} {r0 : Nat} {x1 : Int32} {r2 : Nat}
    (h : zK σ r0 = 6 ∧ ∃ b1, zP σ r0 0 = some b1 ∧ (zK σ b1 = 2 ∧ WP g C S 2 0 [some (.ref b1), some (.int x1)] [] σ (KK g C S 51 8 [some (.ref r0), some (.int x1), some (.ref r2)] [] Q false))) :
    WP g C S 51 0 [some (.ref r0), some (.int x1), some (.ref r2)] [] σ Q := by
  refine r_g (pc' := 1) (ls' := [some (.ref r0), some (.int x1), some (.ref r2)]) (st' := [.ref r0]) dX4_addPages_0 (fun _ => rfl) ?_
  obtain ⟨hK, b1, hP, h⟩ := h
  refine r_getP dX4_addPages_1 rfl (by decide) rfl hK hP ?_
  refine r_g (pc' := 5) (ls' := [some (.ref r0), some (.int x1), some (.ref r2)]) (st' := [.int x1, .ref b1]) dX4_addPages_4 (fun _ => rfl) ?_
  obtain ⟨hK, h⟩ := h
  exact r_call (th := false) dX4_addPages_5 (fun _ => ex_calV rfl (by decide)) rfl (Nat.le_of_ble_eq_true rfl) (Nat.le_of_ble_eq_true rfl) (Nat.le_of_ble_eq_true rfl) (rcv0 rfl rfl (by decide) hK) rfl rfl rfl (fun q => nomatch q) h
theorem b51_8 {g : Nat → Nat} {C S : Nat} {σ : PS} {Q : Rs → PS → Prop} {r0 : Nat} {l1 : Option Value} {r2 : Nat} {u0 : Int32}
    (h : ((u0 : Int32) = 0 → WP g C S 51 45 [some (.ref r0), l1, some (.ref r2)] [] σ Q) ∧ (¬ ((u0 : Int32) = 0) → zK σ r0 = 6 ∧ ∃ b1, zP σ r0 0 = some b1 ∧ (zK σ b1 = 2 ∧ WP g C S 2 0 [some (.ref b1), some (.int 5)] [] σ (KK g C S 51 19 [some (.ref r0), l1, some (.ref r2)] [] Q false)))) :
    WP g C S 51 8 [some (.ref r0), l1, some (.ref r2)] [.int u0] σ Q := by
  obtain ⟨h1, h2⟩ := h
  refine r_if (t := 45) dX4_addPages_8 (by decide) c_eq (fun c => ?_) (fun c => ?_)
  · have h := h1 c
    exact h
  · have h := h2 c
    refine r_g (pc' := 12) (ls' := [some (.ref r0), l1, some (.ref r2)]) (st' := [.ref r0]) dX4_addPages_11 (fun _ => rfl) ?_
    obtain ⟨hK, b1, hP, h⟩ := h
    refine r_getP dX4_addPages_12 rfl (by decide) rfl hK hP ?_
    refine r_ic (v := 5) dX4_addPages_15 (by decide) ?_
    obtain ⟨hK, h⟩ := h
    exact r_call (th := false) dX4_addPages_16 (fun _ => ex_calV rfl (by decide)) rfl (Nat.le_of_ble_eq_true rfl) (Nat.le_of_ble_eq_true rfl) (Nat.le_of_ble_eq_true rfl) (rcv0 rfl rfl (by decide) hK) rfl rfl rfl (fun q => nomatch q) h
theorem b51_19 {g : Nat → Nat} {C S : Nat} {σ : PS} {Q : Rs → PS → Prop} {r0 : Nat} {l1 : Option Value} {r2 : Nat} {u0 : Int32}
    (h : ((u0 : Int32) = 0 → WP g C S 51 45 [some (.ref r0), l1, some (.ref r2)] [] σ Q) ∧ (¬ ((u0 : Int32) = 0) → zK σ r0 = 6 ∧ ∃ b1, zP σ r0 7 = some b1 ∧ (zK σ b1 = 7 ∧ WP g C S 59 0 [some (.ref b1), some (.ref r2), none] [] σ (KK g C S 51 30 [some (.ref r0), l1, some (.ref r2)] [] Q false)))) :
    WP g C S 51 19 [some (.ref r0), l1, some (.ref r2)] [.int u0] σ Q := by
  obtain ⟨h1, h2⟩ := h
  refine r_if (t := 45) dX4_addPages_19 (by decide) c_eq (fun c => ?_) (fun c => ?_)
  · have h := h1 c
    exact h
  · have h := h2 c
    refine r_g (pc' := 23) (ls' := [some (.ref r0), l1, some (.ref r2)]) (st' := [.ref r0]) dX4_addPages_22 (fun _ => rfl) ?_
    obtain ⟨hK, b1, hP, h⟩ := h
    refine r_getP dX4_addPages_23 rfl (by decide) rfl hK hP ?_
    refine r_g (pc' := 27) (ls' := [some (.ref r0), l1, some (.ref r2)]) (st' := [.ref r2, .ref b1]) dX4_addPages_26 (fun _ => rfl) ?_
    obtain ⟨hK, h⟩ := h
    exact r_call (th := false) dX4_addPages_27 (fun _ => ex_calV rfl (by decide)) rfl (Nat.le_of_ble_eq_true rfl) (Nat.le_of_ble_eq_true rfl) (Nat.le_of_ble_eq_true rfl) (rcv0 rfl rfl (by decide) hK) rfl rfl rfl (fun q => nomatch q) h
theorem b51_30 {g : Nat → Nat} {C S : Nat} {σ : PS} {Q : Rs → PS → Prop} {r0 : Nat} {l1 : Option Value} {l2 : Option Value}
    (h : zK σ r0 = 6 ∧ ∃ b1, zP σ r0 7 = some b1 ∧ (zK σ r0 = 6 ∧ ∃ b2, zP σ r0 0 = some b2 ∧ (zK σ b2 = 2 ∧ WP g C S 3 0 [some (.ref b2), some (.int 5), none, none, none, none] [] σ (KK g C S 51 42 [some (.ref r0), l1, l2] [.ref b1] Q false)))) :
    WP g C S 51 30 [some (.ref r0), l1, l2] [] σ Q := by
  refine r_g (pc' := 31) (ls' := [some (.ref r0), l1, l2]) (st' := [.ref r0]) dX4_addPages_30 (fun _ => rfl) ?_
  obtain ⟨hK, b1, hP, h⟩ := h
  refine r_getP dX4_addPages_31 rfl (by decide) rfl hK hP ?_
  refine r_g (pc' := 35) (ls' := [some (.ref r0), l1, l2]) (st' := [.ref r0, .ref b1]) dX4_addPages_34 (fun _ => rfl) ?_
  obtain ⟨hK, b2, hP, h⟩ := h
  refine r_getP dX4_addPages_35 rfl (by decide) rfl hK hP ?_
  refine r_ic (v := 5) dX4_addPages_38 (by decide) ?_
  obtain ⟨hK, h⟩ := h
  exact r_call (th := false) dX4_addPages_39 (fun _ => ex_calV rfl (by decide)) rfl (Nat.le_of_ble_eq_true rfl) (Nat.le_of_ble_eq_true rfl) (Nat.le_of_ble_eq_true rfl) (rcv0 rfl rfl (by decide) hK) rfl rfl rfl (fun q => nomatch q) h
theorem b51_42 {g : Nat → Nat} {C S : Nat} {σ : PS} {Q : Rs → PS → Prop} {l0 : Option Value} {l1 : Option Value} {l2 : Option Value} {w0 : Nat} {w1 : Nat}
    (h : zK σ w1 = 7 ∧ WP g C S 60 0 [some (.ref w1), some (.ref w0)] [] σ (KK g C S 51 45 [l0, l1, l2] [] Q false)) :
    WP g C S 51 42 [l0, l1, l2] [.ref w0, .ref w1] σ Q := by
  obtain ⟨hK, h⟩ := h
  exact r_call (th := false) dX4_addPages_42 (fun _ => ex_calV rfl (by decide)) rfl (Nat.le_of_ble_eq_true rfl) (Nat.le_of_ble_eq_true rfl) (Nat.le_of_ble_eq_true rfl) (rcv0 rfl rfl (by decide) hK) rfl rfl rfl (fun q => nomatch q) h
theorem b51_45 {g : Nat → Nat} {C S : Nat} {σ : PS} {Q : Rs → PS → Prop} {l0 : Option Value} {l1 : Option Value} {l2 : Option Value}
    (h : Q (Sum.inl none) σ) :
    WP g C S 51 45 [l0, l1, l2] [] σ Q := by
  exact r_vret dX4_addPages_45 rfl h
theorem b5_0 {g : Nat → Nat} {C S : Nat} {σ : PS} {Q : Rs → PS → Prop} {r0 : Nat}
    (h : zN σ + 1 ≤ C ∧ zS σ + 3 ≤ S ∧ (∀ τ1, τ1 = alO σ 1 3 → WP g C S 158 0 [some (.ref (zN σ))] [] τ1 (KK g C S 5 12 [some (.ref r0)] [.ref (zN σ), .ref r0] Q false))) :
    WP g C S 5 0 [some (.ref r0)] [] σ Q := by
  refine r_g (pc' := 1) (ls' := [some (.ref r0)]) (st' := [.ref r0]) dX1_init_0 (fun _ => rfl) ?_
  refine r_oi dX1_init_1 rfl ⟨Nat.le_of_ble_eq_true rfl, Nat.le_of_ble_eq_true rfl, Nat.le_of_ble_eq_true rfl⟩ ?_
  refine r_g (pc' := 5) (ls' := [some (.ref r0)]) (st' := [.ref r0]) dX1_init_4 (fun _ => rfl) ?_
  obtain ⟨hC, hS, h⟩ := h
  refine r_new (N := 3) dX1_init_5 rfl (by decide) rfl hC hS ?_
  generalize eτ1 : alO σ (0 + 1) 3 = τ1
  replace h := h _ eτ1.symm
  refine r_g (pc' := 9) (ls' := [some (.ref r0)]) (st' := [.ref (zN σ), .ref (zN σ), .ref r0]) dX1_init_8 (fun _ => rfl) ?_
  exact r_call (th := false) dX1_init_9 (fun _ => ex_calI rfl (by decide)) rfl (Nat.le_of_ble_eq_true rfl) (Nat.le_of_ble_eq_true rfl) (Nat.le_of_ble_eq_true rfl) rfl rfl rfl rfl (fun q => nomatch q) h
theorem b5_12 {g : Nat → Nat} {C S : Nat} {σ : PS} {Q : Rs → PS → Prop} {r0 : Nat} {w0 : Nat} {w1 : Nat}
    (h : zK σ w1 = 3 ∧ (∀ τ1, τ1 = stP σ w1 0 (some w0) → zK τ1 r0 = 3 ∧ (∀ τ2, τ2 = stI τ1 r0 1 0 → zK τ2 r0 = 3 ∧ (∀ τ3, τ3 = stI τ2 r0 2 0 → ∃ n4 : Nat, 96 = nI n4 ∧ n4 ≤ 100000 ∧ zN τ3 + 1 ≤ C ∧ zS τ3 + n4 ≤ S ∧ (∀ τ5, τ5 = alA τ3 101 n4 → zK τ5 r0 = 3 ∧ (∀ τ6, τ6 = stP τ5 r0 3 (some (zN τ3)) → ∃ n7 : Nat, 96 = nI n7 ∧ n7 ≤ 100000 ∧ zN τ6 + 1 ≤ C ∧ zS τ6 + n7 ≤ S ∧ (∀ τ8, τ8 = alA τ6 101 n7 → zK τ8 r0 = 3 ∧ (∀ τ9, τ9 = stP τ8 r0 4 (some (zN τ6)) → zK τ9 r0 = 3 ∧ (∀ τ10, τ10 = stI τ9 r0 5 0 → Q (Sum.inl none) τ10))))))))) :
    WP g C S 5 12 [some (.ref r0)] [.ref w0, .ref w1] σ Q := by
  obtain ⟨hK, h⟩ := h
  refine r_putP dX1_init_12 rfl (by decide) (Or.inr ⟨rfl, rfl⟩) rfl hK ?_
  generalize eτ1 : stP σ w1 0 (some w0) = τ1
  replace h := h _ eτ1.symm
  refine r_g (pc' := 16) (ls' := [some (.ref r0)]) (st' := [.ref r0]) dX1_init_15 (fun _ => rfl) ?_
  refine r_ic (v := 0) dX1_init_16 (by decide) ?_
  obtain ⟨hK, h⟩ := h
  refine r_putI dX1_init_17 rfl (by decide) (Or.inl rfl) rfl (Or.inl rfl) hK ?_
  generalize eτ2 : stI τ1 r0 1 0 = τ2
  replace h := h _ eτ2.symm
  refine r_g (pc' := 21) (ls' := [some (.ref r0)]) (st' := [.ref r0]) dX1_init_20 (fun _ => rfl) ?_
  refine r_ic (v := 0) dX1_init_21 (by decide) ?_
  obtain ⟨hK, h⟩ := h
  refine r_putI dX1_init_22 rfl (by decide) (Or.inl rfl) rfl (Or.inr (Or.inl rfl)) hK ?_
  generalize eτ3 : stI τ2 r0 2 0 = τ3
  replace h := h _ eτ3.symm
  refine r_g (pc' := 26) (ls' := [some (.ref r0)]) (st' := [.ref r0]) dX1_init_25 (fun _ => rfl) ?_
  refine r_bi (v := 96) dX1_init_26 (by decide) ?_
  obtain ⟨n4, hj, hn, hC, hS, h⟩ := h
  refine r_newI dX1_init_28 hj hn hC hS ?_
  generalize eτ5 : alA τ3 101 n4 = τ5
  replace h := h _ eτ5.symm
  obtain ⟨hK, h⟩ := h
  refine r_putP dX1_init_30 rfl (by decide) (Or.inr ⟨rfl, rfl⟩) rfl hK ?_
  generalize eτ6 : stP τ5 r0 3 (some (zN τ3)) = τ6
  replace h := h _ eτ6.symm
  refine r_g (pc' := 34) (ls' := [some (.ref r0)]) (st' := [.ref r0]) dX1_init_33 (fun _ => rfl) ?_
  refine r_bi (v := 96) dX1_init_34 (by decide) ?_
  obtain ⟨n7, hj, hn, hC, hS, h⟩ := h
  refine r_newI dX1_init_36 hj hn hC hS ?_
  generalize eτ8 : alA τ6 101 n7 = τ8
  replace h := h _ eτ8.symm
  obtain ⟨hK, h⟩ := h
  refine r_putP dX1_init_38 rfl (by decide) (Or.inr ⟨rfl, rfl⟩) rfl hK ?_
  generalize eτ9 : stP τ8 r0 4 (some (zN τ6)) = τ9
  replace h := h _ eτ9.symm
  refine r_g (pc' := 42) (ls' := [some (.ref r0)]) (st' := [.ref r0]) dX1_init_41 (fun _ => rfl) ?_
  refine r_ic (v := 0) dX1_init_42 (by decide) ?_
  obtain ⟨hK, h⟩ := h
  refine r_putI dX1_init_43 rfl (by decide) (Or.inl rfl) rfl (Or.inl rfl) hK ?_
  generalize eτ10 : stI τ9 r0 5 0 = τ10
  replace h := h _ eτ10.symm
  exact r_vret dX1_init_46 rfl h
theorem b6_0 {g : Nat → Nat} {C S : Nat} {σ : PS} {Q : Rs → PS → Prop} {r0 : Nat}
    (h : zK σ r0 = 3 ∧ Q (Sum.inl (some (.int (zI σ r0 1)))) σ) :
    WP g C S 6 0 [some (.ref r0)] [] σ Q := by
  refine r_g (pc' := 1) (ls' := [some (.ref r0)]) (st' := [.ref r0]) dX1_size_0 (fun _ => rfl) ?_
  obtain ⟨hK, h⟩ := h
  refine r_getI dX1_size_1 rfl (by decide) rfl hK ?_
  exact r_ret dX1_size_4 rfl h
theorem b7_0 {g : Nat → Nat} {C S : Nat} {σ : PS} {Q : Rs → PS → Prop} {r0 : Nat} {x1 : Int32}
    (h : zK σ r0 = 3 ∧ ∃ b1, zP σ r0 0 = some b1 ∧ (zK σ b1 = 1 ∧ WP g C S 163 0 [some (.ref b1), some (.int x1)] [] σ (KK g C S 7 8 [some (.ref r0), some (.int x1)] [] Q false))) :
    WP g C S 7 0 [some (.ref r0), some (.int x1)] [] σ Q := by
  refine r_g (pc' := 1) (ls' := [some (.ref r0), some (.int x1)]) (st' := [.ref r0]) dX1_get_0 (fun _ => rfl) ?_
  obtain ⟨hK, b1, hP, h⟩ := h
  refine r_getP dX1_get_1 rfl (by decide) rfl hK hP ?_
  refine r_g (pc' := 5) (ls' := [some (.ref r0), some (.int x1)]) (st' := [.int x1, .ref b1]) dX1_get_4 (fun _ => rfl) ?_
  obtain ⟨hK, h⟩ := h
  exact r_call (th := false) dX1_get_5 (fun _ => ex_calV rfl (by decide)) rfl (Nat.le_of_ble_eq_true rfl) (Nat.le_of_ble_eq_true rfl) (Nat.le_of_ble_eq_true rfl) (rcv0 rfl rfl (by decide) hK) rfl rfl rfl (fun q => nomatch q) h
theorem b7_8 {g : Nat → Nat} {C S : Nat} {σ : PS} {Q : Rs → PS → Prop} {l0 : Option Value} {l1 : Option Value} {w0 : Nat}
    (h : zK σ w0 = 6 ∧ Q (Sum.inl (some (.ref w0))) σ) :
    WP g C S 7 8 [l0, l1] [.ref w0] σ Q := by
  obtain ⟨hK, h⟩ := h
  refine r_chk dX1_get_8 rfl (Or.inl ⟨by decide, hK⟩) ?_
  exact r_aret dX1_get_11 rfl h
theorem b8_0 {g : Nat → Nat} {C S : Nat} {σ : PS} {Q : Rs → PS → Prop} {r0 : Nat}
    (h : zK σ r0 = 3 ∧ (∀ τ1, τ1 = stI σ r0 2 1 → zK τ1 r0 = 3 ∧ (∀ τ2, τ2 = stI τ1 r0 1 0 → Q (Sum.inl none) τ2))) :
    WP g C S 8 0 [some (.ref r0)] [] σ Q := by
  refine r_g (pc' := 1) (ls' := [some (.ref r0)]) (st' := [.ref r0]) dX1_begin_0 (fun _ => rfl) ?_
  refine r_ic (v := 1) dX1_begin_1 (by decide) ?_
  obtain ⟨hK, h⟩ := h
  refine r_putI dX1_begin_2 rfl (by decide) (Or.inl rfl) rfl (Or.inr (Or.inr rfl)) hK ?_
  generalize eτ1 : stI σ r0 2 1 = τ1
  replace h := h _ eτ1.symm
  refine r_g (pc' := 6) (ls' := [some (.ref r0)]) (st' := [.ref r0]) dX1_begin_5 (fun _ => rfl) ?_
  refine r_ic (v := 0) dX1_begin_6 (by decide) ?_
  obtain ⟨hK, h⟩ := h
  refine r_putI dX1_begin_7 rfl (by decide) (Or.inl rfl) rfl (Or.inl rfl) hK ?_
  generalize eτ2 : stI τ1 r0 1 0 = τ2
  replace h := h _ eτ2.symm
  exact r_vret dX1_begin_10 rfl h
theorem b9_0 {g : Nat → Nat} {C S : Nat} {σ : PS} {Q : Rs → PS → Prop} {r0 : Nat} {r1 : Nat} {l2 : Option Value}
    (h : WP g C S 9 2 [some (.ref r0), some (.ref r1), some (.int 0)] [] σ Q) :
    WP g C S 9 0 [some (.ref r0), some (.ref r1), l2] [] σ Q := by
  refine r_ic (v := 0) dX1_list_0 (by decide) ?_
  refine r_g (pc' := 2) (ls' := [some (.ref r0), some (.ref r1), some (.int 0)]) (st' := []) dX1_list_1 (fun _ => rfl) ?_
  exact h
theorem b9_2 {g : Nat → Nat} {C S : Nat} {σ : PS} {Q : Rs → PS → Prop} {r0 : Nat} {r1 : Nat} {x2 : Int32}
    (h : zK σ r0 = 3 ∧ ((zI σ r0 1 : Int32) ≤ x2 → zK σ r0 = 3 ∧ zK σ r0 = 3 ∧ ∃ b1, zP σ r0 0 = some b1 ∧ (zK σ b1 = 1 ∧ WP g C S 161 0 [some (.ref b1)] [] σ (KK g C S 9 46 [some (.ref r0), some (.ref r1), some (.int x2)] [.int (zI σ r0 1)] Q false))) ∧ (¬ ((zI σ r0 1 : Int32) ≤ x2) → zK σ r0 = 3 ∧ ∃ b2, zP σ r0 0 = some b2 ∧ (zK σ b2 = 1 ∧ WP g C S 163 0 [some (.ref b2), some (.int x2)] [] σ (KK g C S 9 18 [some (.ref r0), some (.ref r1), some (.int x2)] [] Q false)))) :
    WP g C S 9 2 [some (.ref r0), some (.ref r1), some (.int x2)] [] σ Q := by
  refine r_g (pc' := 3) (ls' := [some (.ref r0), some (.ref r1), some (.int x2)]) (st' := [.int x2]) dX1_list_2 (fun _ => rfl) ?_
  refine r_g (pc' := 4) (ls' := [some (.ref r0), some (.ref r1), some (.int x2)]) (st' := [.ref r0, .int x2]) dX1_list_3 (fun _ => rfl) ?_
  obtain ⟨hK, h⟩ := h
  refine r_getI dX1_list_4 rfl (by decide) rfl hK ?_
  obtain ⟨h1, h2⟩ := h
  refine r_icmp (t := 35) dX1_list_7 (by decide) c_ge (fun c => ?_) (fun c => ?_)
  · have h := h1 c
    refine r_g (pc' := 36) (ls' := [some (.ref r0), some (.ref r1), some (.int x2)]) (st' := [.ref r0]) dX1_list_35 (fun _ => rfl) ?_
    obtain ⟨hK, h⟩ := h
    refine r_getI dX1_list_36 rfl (by decide) rfl hK ?_
    refine r_g (pc' := 40) (ls' := [some (.ref r0), some (.ref r1), some (.int x2)]) (st' := [.ref r0, .int (zI σ r0 1)]) dX1_list_39 (fun _ => rfl) ?_
    obtain ⟨hK, b1, hP, h⟩ := h
    refine r_getP dX1_list_40 rfl (by decide) rfl hK hP ?_
    obtain ⟨hK, h⟩ := h
    exact r_call (th := false) dX1_list_43 (fun _ => ex_calV rfl (by decide)) rfl (Nat.le_of_ble_eq_true rfl) (Nat.le_of_ble_eq_true rfl) (Nat.le_of_ble_eq_true rfl) (rcv0 rfl rfl (by decide) hK) rfl rfl rfl (fun q => nomatch q) h
  · have h := h2 c
    refine r_g (pc' := 11) (ls' := [some (.ref r0), some (.ref r1), some (.int x2)]) (st' := [.ref r0]) dX1_list_10 (fun _ => rfl) ?_
    obtain ⟨hK, b2, hP, h⟩ := h
    refine r_getP dX1_list_11 rfl (by decide) rfl hK hP ?_
    refine r_g (pc' := 15) (ls' := [some (.ref r0), some (.ref r1), some (.int x2)]) (st' := [.int x2, .ref b2]) dX1_list_14 (fun _ => rfl) ?_
    obtain ⟨hK, h⟩ := h
    exact r_call (th := false) dX1_list_15 (fun _ => ex_calV rfl (by decide)) rfl (Nat.le_of_ble_eq_true rfl) (Nat.le_of_ble_eq_true rfl) (Nat.le_of_ble_eq_true rfl) (rcv0 rfl rfl (by decide) hK) rfl rfl rfl (fun q => nomatch q) h
theorem b9_18 {g : Nat → Nat} {C S : Nat} {σ : PS} {Q : Rs → PS → Prop} {r0 : Nat} {r1 : Nat} {x2 : Int32} {w0 : Nat}
    (h : zK σ w0 = 6 ∧ zK σ w0 = 6 ∧ ∃ b1, zP σ w0 0 = some b1 ∧ ((¬ (b1 = r1) → WP g C S 9 2 [some (.ref r0), some (.ref r1), some (.int (x2 + 1))] [] σ Q) ∧ (b1 = r1 → Q (Sum.inl none) σ))) :
    WP g C S 9 18 [some (.ref r0), some (.ref r1), some (.int x2)] [.ref w0] σ Q := by
  obtain ⟨hK, h⟩ := h
  refine r_chk dX1_list_18 rfl (Or.inl ⟨by decide, hK⟩) ?_
  obtain ⟨hK, b1, hP, h⟩ := h
  refine r_getP dX1_list_21 rfl (by decide) rfl hK hP ?_
  refine r_g (pc' := 25) (ls' := [some (.ref r0), some (.ref r1), some (.int x2)]) (st' := [.ref r1, .ref b1]) dX1_list_24 (fun _ => rfl) ?_
  obtain ⟨h1, h2⟩ := h
  refine r_ane (t := 29) dX1_list_25 (by decide) (fun c => ?_) (fun c => ?_)
  · have h := h1 c
    refine r_inc (v := 1) (ls' := [some (.ref r0), some (.ref r1), some (.int (x2 + 1))]) dX1_list_29 rfl (Nat.le_of_ble_eq_true rfl) (by decide) rfl ?_
    refine r_goto (t := 2) dX1_list_32 (by decide) ?_
    exact h
  · have h := h2 c
    exact r_vret dX1_list_28 rfl h
theorem b9_46 {g : Nat → Nat} {C S : Nat} {σ : PS} {Q : Rs → PS → Prop} {r0 : Nat} {r1 : Nat} {l2 : Option Value} {u0 : Int32} {u1 : Int32}
    (h : ((u1 : Int32) < u0 → WP g C S 9 65 [some (.ref r0), some (.ref r1), l2] [] σ Q) ∧ (¬ ((u1 : Int32) < u0) → zK σ r0 = 3 ∧ ∃ b1, zP σ r0 0 = some b1 ∧ (zN σ + 1 ≤ C ∧ zS σ + 8 ≤ S ∧ (∀ τ2, τ2 = alO σ 6 8 → WP g C S 38 0 [some (.ref (zN σ)), some (.ref r1)] [] τ2 (KK g C S 9 61 [some (.ref r0), some (.ref r1), l2] [.ref (zN σ), .ref b1] Q false))))) :
    WP g C S 9 46 [some (.ref r0), some (.ref r1), l2] [.int u0, .int u1] σ Q := by
  obtain ⟨h1, h2⟩ := h
  refine r_icmp (t := 65) dX1_list_46 (by decide) c_lt (fun c => ?_) (fun c => ?_)
  · have h := h1 c
    exact h
  · have h := h2 c
    refine r_g (pc' := 50) (ls' := [some (.ref r0), some (.ref r1), l2]) (st' := [.ref r0]) dX1_list_49 (fun _ => rfl) ?_
    obtain ⟨hK, b1, hP, h⟩ := h
    refine r_getP dX1_list_50 rfl (by decide) rfl hK hP ?_
    obtain ⟨hC, hS, h⟩ := h
    refine r_new (N := 8) dX1_list_53 rfl (by decide) rfl hC hS ?_
    generalize eτ2 : alO σ (5 + 1) 8 = τ2
    replace h := h _ eτ2.symm
    refine r_g (pc' := 57) (ls' := [some (.ref r0), some (.ref r1), l2]) (st' := [.ref (zN σ), .ref (zN σ), .ref b1]) dX1_list_56 (fun _ => rfl) ?_
    refine r_g (pc' := 58) (ls' := [some (.ref r0), some (.ref r1), l2]) (st' := [.ref r1, .ref (zN σ), .ref (zN σ), .ref b1]) dX1_list_57 (fun _ => rfl) ?_
    exact r_call (th := false) dX1_list_58 (fun _ => ex_calI rfl (by decide)) rfl (Nat.le_of_ble_eq_true rfl) (Nat.le_of_ble_eq_true rfl) (Nat.le_of_ble_eq_true rfl) rfl rfl rfl rfl (fun q => nomatch q) h
theorem b9_61 {g : Nat → Nat} {C S : Nat} {σ : PS} {Q : Rs → PS → Prop} {r0 : Nat} {r1 : Nat} {l2 : Option Value} {w0 : Nat} {w1 : Nat}
    (h : zK σ w1 = 1 ∧ WP g C S 166 0 [some (.ref w1), some (.ref w0)] [] σ (KK g C S 9 64 [some (.ref r0), some (.ref r1), l2] [] Q false)) :
    WP g C S 9 61 [some (.ref r0), some (.ref r1), l2] [.ref w0, .ref w1] σ Q := by
  obtain ⟨hK, h⟩ := h
  exact r_call (th := false) dX1_list_61 (fun _ => ex_calV rfl (by decide)) rfl (Nat.le_of_ble_eq_true rfl) (Nat.le_of_ble_eq_true rfl) (Nat.le_of_ble_eq_true rfl) (rcv0 rfl rfl (by decide) hK) rfl rfl rfl (fun q => nomatch q) h
theorem b9_64 {g : Nat → Nat} {C S : Nat} {σ : PS} {Q : Rs → PS → Prop} {r0 : Nat} {r1 : Nat} {l2 : Option Value} {u0 : Int32}
    (h : WP g C S 9 65 [some (.ref r0), some (.ref r1), l2] [] σ Q) :
    WP g C S 9 64 [some (.ref r0), some (.ref r1), l2] [.int u0] σ Q := by
  refine r_g (pc' := 65) (ls' := [some (.ref r0), some (.ref r1), l2]) (st' := []) dX1_list_64 (fun _ => rfl) ?_
  exact h
theorem b9_65 {g : Nat → Nat} {C S : Nat} {σ : PS} {Q : Rs → PS → Prop} {r0 : Nat} {r1 : Nat} {l2 : Option Value}
    (h : zK σ r0 = 3 ∧ ∃ b1, zP σ r0 0 = some b1 ∧ (zK σ r0 = 3 ∧ zK σ b1 = 1 ∧ WP g C S 163 0 [some (.ref b1), some (.int (zI σ r0 1))] [] σ (KK g C S 9 76 [some (.ref r0), some (.ref r1), l2] [] Q false))) :
    WP g C S 9 65 [some (.ref r0), some (.ref r1), l2] [] σ Q := by
  refine r_g (pc' := 66) (ls' := [some (.ref r0), some (.ref r1), l2]) (st' := [.ref r0]) dX1_list_65 (fun _ => rfl) ?_
  obtain ⟨hK, b1, hP, h⟩ := h
  refine r_getP dX1_list_66 rfl (by decide) rfl hK hP ?_
  refine r_g (pc' := 70) (ls' := [some (.ref r0), some (.ref r1), l2]) (st' := [.ref r0, .ref b1]) dX1_list_69 (fun _ => rfl) ?_
  obtain ⟨hK, h⟩ := h
  refine r_getI dX1_list_70 rfl (by decide) rfl hK ?_
  obtain ⟨hK, h⟩ := h
  exact r_call (th := false) dX1_list_73 (fun _ => ex_calV rfl (by decide)) rfl (Nat.le_of_ble_eq_true rfl) (Nat.le_of_ble_eq_true rfl) (Nat.le_of_ble_eq_true rfl) (rcv0 rfl rfl (by decide) hK) rfl rfl rfl (fun q => nomatch q) h
theorem b9_76 {g : Nat → Nat} {C S : Nat} {σ : PS} {Q : Rs → PS → Prop} {r0 : Nat} {r1 : Nat} {l2 : Option Value} {w0 : Nat}
    (h : zK σ w0 = 6 ∧ zK σ w0 = 6 ∧ WP g C S 39 0 [some (.ref w0), some (.ref r1)] [] σ (KK g C S 9 83 [some (.ref r0), some (.ref r1), l2] [] Q false)) :
    WP g C S 9 76 [some (.ref r0), some (.ref r1), l2] [.ref w0] σ Q := by
  obtain ⟨hK, h⟩ := h
  refine r_chk dX1_list_76 rfl (Or.inl ⟨by decide, hK⟩) ?_
  refine r_g (pc' := 80) (ls' := [some (.ref r0), some (.ref r1), l2]) (st' := [.ref r1, .ref w0]) dX1_list_79 (fun _ => rfl) ?_
  obtain ⟨hK, h⟩ := h
  exact r_call (th := false) dX1_list_80 (fun _ => ex_calV rfl (by decide)) rfl (Nat.le_of_ble_eq_true rfl) (Nat.le_of_ble_eq_true rfl) (Nat.le_of_ble_eq_true rfl) (rcv0 rfl rfl (by decide) hK) rfl rfl rfl (fun q => nomatch q) h
theorem b9_83 {g : Nat → Nat} {C S : Nat} {σ : PS} {Q : Rs → PS → Prop} {r0 : Nat} {l1 : Option Value} {l2 : Option Value}
    (h : zK σ r0 = 3 ∧ zK σ r0 = 3 ∧ (∀ τ1, τ1 = stI σ r0 1 ((zI σ r0 1) + 1) → Q (Sum.inl none) τ1)) :
    WP g C S 9 83 [some (.ref r0), l1, l2] [] σ Q := by
  refine r_g (pc' := 84) (ls' := [some (.ref r0), l1, l2]) (st' := [.ref r0]) dX1_list_83 (fun _ => rfl) ?_
  refine r_g (pc' := 85) (ls' := [some (.ref r0), l1, l2]) (st' := [.ref r0, .ref r0]) dX1_list_84 (fun _ => rfl) ?_
  obtain ⟨hK, h⟩ := h
  refine r_getI dX1_list_85 rfl (by decide) rfl hK ?_
  refine r_ic (v := 1) dX1_list_88 (by decide) ?_
  refine r_g (pc' := 90) (ls' := [some (.ref r0), l1, l2]) (st' := [.int ((zI σ r0 1) + 1), .ref r0]) dX1_list_89 (fun _ => rfl) ?_
  obtain ⟨hK, h⟩ := h
  refine r_putI dX1_list_90 rfl (by decide) (Or.inl rfl) rfl (Or.inl rfl) hK ?_
  generalize eτ1 : stI σ r0 1 ((zI σ r0 1) + 1) = τ1
  replace h := h _ eτ1.symm
  exact r_vret dX1_list_93 rfl h
theorem b10_0 {g : Nat → Nat} {C S : Nat} {σ : PS} {Q : Rs → PS → Prop} {r0 : Nat} {x1 : Int32} {l2 : Option Value} {l3 : Option Value} {l4 : Option Value}
    (h : (¬ (x1 : Int32) = 0 → WP g C S 10 7 [some (.ref r0), some (.int x1), some (.int 0), l3, l4] [] σ Q) ∧ (¬ (¬ (x1 : Int32) = 0) → Q (Sum.inl none) σ)) :
    WP g C S 10 0 [some (.ref r0), some (.int x1), l2, l3, l4] [] σ Q := by
  refine r_g (pc' := 1) (ls' := [some (.ref r0), some (.int x1), l2, l3, l4]) (st' := [.int x1]) dX1_arrange_0 (fun _ => rfl) ?_
  obtain ⟨h1, h2⟩ := h
  refine r_if (t := 5) dX1_arrange_1 (by decide) c_ne (fun c => ?_) (fun c => ?_)
  · have h := h1 c
    refine r_ic (v := 0) dX1_arrange_5 (by decide) ?_
    refine r_g (pc' := 7) (ls' := [some (.ref r0), some (.int x1), some (.int 0), l3, l4]) (st' := []) dX1_arrange_6 (fun _ => rfl) ?_
    exact h
  · have h := h2 c
    exact r_vret dX1_arrange_4 rfl h
theorem b10_7 {g : Nat → Nat} {C S : Nat} {σ : PS} {Q : Rs → PS → Prop} {r0 : Nat} {x1 : Int32} {x2 : Int32} {l3 : Option Value} {l4 : Option Value}
    (h : zK σ r0 = 3 ∧ ((zI σ r0 1 : Int32) ≤ x2 → Q (Sum.inl none) σ) ∧ (¬ ((zI σ r0 1 : Int32) ≤ x2) → zK σ r0 = 3 ∧ ∃ b1, zP σ r0 0 = some b1 ∧ (zK σ b1 = 1 ∧ WP g C S 163 0 [some (.ref b1), some (.int x2)] [] σ (KK g C S 10 23 [some (.ref r0), some (.int x1), some (.int x2), l3, l4] [] Q false)))) :
    WP g C S 10 7 [some (.ref r0), some (.int x1), some (.int x2), l3, l4] [] σ Q := by
  refine r_g (pc' := 8) (ls' := [some (.ref r0), some (.int x1), some (.int x2), l3, l4]) (st' := [.int x2]) dX1_arrange_7 (fun _ => rfl) ?_
  refine r_g (pc' := 9) (ls' := [some (.ref r0), some (.int x1), some (.int x2), l3, l4]) (st' := [.ref r0, .int x2]) dX1_arrange_8 (fun _ => rfl) ?_
  obtain ⟨hK, h⟩ := h
  refine r_getI dX1_arrange_9 rfl (by decide) rfl hK ?_
  obtain ⟨h1, h2⟩ := h
  refine r_icmp (t := 114) dX1_arrange_12 (by decide) c_ge (fun c => ?_) (fun c => ?_)
  · have h := h1 c
    exact r_vret dX1_arrange_114 rfl h
  · have h := h2 c
    refine r_g (pc' := 16) (ls' := [some (.ref r0), some (.int x1), some (.int x2), l3, l4]) (st' := [.ref r0]) dX1_arrange_15 (fun _ => rfl) ?_
    obtain ⟨hK, b1, hP, h⟩ := h
    refine r_getP dX1_arrange_16 rfl (by decide) rfl hK hP ?_
    refine r_g (pc' := 20) (ls' := [some (.ref r0), some (.int x1), some (.int x2), l3, l4]) (st' := [.int x2, .ref b1]) dX1_arrange_19 (fun _ => rfl) ?_
    obtain ⟨hK, h⟩ := h
    exact r_call (th := false) dX1_arrange_20 (fun _ => ex_calV rfl (by decide)) rfl (Nat.le_of_ble_eq_true rfl) (Nat.le_of_ble_eq_true rfl) (Nat.le_of_ble_eq_true rfl) (rcv0 rfl rfl (by decide) hK) rfl rfl rfl (fun q => nomatch q) h
theorem b10_23 {g : Nat → Nat} {C S : Nat} {σ : PS} {Q : Rs → PS → Prop} {r0 : Nat} {x1 : Int32} {x2 : Int32} {l3 : Option Value} {l4 : Option Value} {w0 : Nat}
    (h : zK σ w0 = 6 ∧ zK σ w0 = 6 ∧ WP g C S 40 0 [some (.ref w0), some (.int x1)] [] σ (KK g C S 10 32 [some (.ref r0), some (.int x1), some (.int x2), some (.ref w0), l4] [] Q false)) :
    WP g C S 10 23 [some (.ref r0), some (.int x1), some (.int x2), l3, l4] [.ref w0] σ Q := by
  obtain ⟨hK, h⟩ := h
  refine r_chk dX1_arrange_23 rfl (Or.inl ⟨by decide, hK⟩) ?_
  refine r_g (pc' := 27) (ls' := [some (.ref r0), some (.int x1), some (.int x2), some (.ref w0), l4]) (st' := []) dX1_arrange_26 (fun _ => rfl) ?_
  refine r_g (pc' := 28) (ls' := [some (.ref r0), some (.int x1), some (.int x2), some (.ref w0), l4]) (st' := [.ref w0]) dX1_arrange_27 (fun _ => rfl) ?_
  refine r_g (pc' := 29) (ls' := [some (.ref r0), some (.int x1), some (.int x2), some (.ref w0), l4]) (st' := [.int x1, .ref w0]) dX1_arrange_28 (fun _ => rfl) ?_
  obtain ⟨hK, h⟩ := h
  exact r_call (th := false) dX1_arrange_29 (fun _ => ex_calV rfl (by decide)) rfl (Nat.le_of_ble_eq_true rfl) (Nat.le_of_ble_eq_true rfl) (Nat.le_of_ble_eq_true rfl) (rcv0 rfl rfl (by decide) hK) rfl rfl rfl (fun q => nomatch q) h
theorem b10_32 {g : Nat → Nat} {C S : Nat} {σ : PS} {Q : Rs → PS → Prop} {r0 : Nat} {x1 : Int32} {x2 : Int32} {r3 : Nat} {l4 : Option Value}
    (h : WP g C S 10 35 [some (.ref r0), some (.int x1), some (.int x2), some (.ref r3), some (.int x2)] [] σ Q) :
    WP g C S 10 32 [some (.ref r0), some (.int x1), some (.int x2), some (.ref r3), l4] [] σ Q := by
  refine r_g (pc' := 33) (ls' := [some (.ref r0), some (.int x1), some (.int x2), some (.ref r3), l4]) (st' := [.int x2]) dX1_arrange_32 (fun _ => rfl) ?_
  refine r_g (pc' := 35) (ls' := [some (.ref r0), some (.int x1), some (.int x2), some (.ref r3), some (.int x2)]) (st' := []) dX1_arrange_33 (fun _ => rfl) ?_
  exact h
theorem b10_35 {g : Nat → Nat} {C S : Nat} {σ : PS} {Q : Rs → PS → Prop} {r0 : Nat} {x1 : Int32} {x2 : Int32} {r3 : Nat} {x4 : Int32}
    (h : ((x4 : Int32) ≤ 0 → WP g C S 10 97 [some (.ref r0), some (.int x1), some (.int x2), some (.ref r3), some (.int x4)] [] σ Q) ∧ (¬ ((x4 : Int32) ≤ 0) → zK σ r0 = 3 ∧ ∃ b1, zP σ r0 0 = some b1 ∧ (zK σ b1 = 1 ∧ WP g C S 163 0 [some (.ref b1), some (.int (x4 - 1))] [] σ (KK g C S 10 51 [some (.ref r0), some (.int x1), some (.int x2), some (.ref r3), some (.int x4)] [] Q false)))) :
    WP g C S 10 35 [some (.ref r0), some (.int x1), some (.int x2), some (.ref r3), some (.int x4)] [] σ Q := by
  refine r_g (pc' := 37) (ls' := [some (.ref r0), some (.int x1), some (.int x2), some (.ref r3), some (.int x4)]) (st' := [.int x4]) dX1_arrange_35 (fun _ => rfl) ?_
  obtain ⟨h1, h2⟩ := h
  refine r_if (t := 97) dX1_arrange_37 (by decide) c_le (fun c => ?_) (fun c => ?_)
  · have h := h1 c
    exact h
  · have h := h2 c
    refine r_g (pc' := 41) (ls' := [some (.ref r0), some (.int x1), some (.int x2), some (.ref r3), some (.int x4)]) (st' := [.ref r0]) dX1_arrange_40 (fun _ => rfl) ?_
    obtain ⟨hK, b1, hP, h⟩ := h
    refine r_getP dX1_arrange_41 rfl (by decide) rfl hK hP ?_
    refine r_g (pc' := 46) (ls' := [some (.ref r0), some (.int x1), some (.int x2), some (.ref r3), some (.int x4)]) (st' := [.int x4, .ref b1]) dX1_arrange_44 (fun _ => rfl) ?_
    refine r_ic (v := 1) dX1_arrange_46 (by decide) ?_
    refine r_g (pc' := 48) (ls' := [some (.ref r0), some (.int x1), some (.int x2), some (.ref r3), some (.int x4)]) (st' := [.int (x4 - 1), .ref b1]) dX1_arrange_47 (fun _ => rfl) ?_
    obtain ⟨hK, h⟩ := h
    exact r_call (th := false) dX1_arrange_48 (fun _ => ex_calV rfl (by decide)) rfl (Nat.le_of_ble_eq_true rfl) (Nat.le_of_ble_eq_true rfl) (Nat.le_of_ble_eq_true rfl) (rcv0 rfl rfl (by decide) hK) rfl rfl rfl (fun q => nomatch q) h
theorem b10_51 {g : Nat → Nat} {C S : Nat} {σ : PS} {Q : Rs → PS → Prop} {r0 : Nat} {x1 : Int32} {x2 : Int32} {r3 : Nat} {x4 : Int32} {w0 : Nat}
    (h : zK σ w0 = 6 ∧ zK σ w0 = 6 ∧ ∃ b1, zP σ w0 2 = some b1 ∧ (zK σ r3 = 6 ∧ ∃ b2, zP σ r3 2 = some b2 ∧ (zK σ b1 = 7 ∧ WP g C S 64 0 [some (.ref b1), some (.ref b2), none, none] [] σ (KK g C S 10 64 [some (.ref r0), some (.int x1), some (.int x2), some (.ref r3), some (.int x4)] [] Q false)))) :
    WP g C S 10 51 [some (.ref r0), some (.int x1), some (.int x2), some (.ref r3), some (.int x4)] [.ref w0] σ Q := by
  obtain ⟨hK, h⟩ := h
  refine r_chk dX1_arrange_51 rfl (Or.inl ⟨by decide, hK⟩) ?_
  obtain ⟨hK, b1, hP, h⟩ := h
  refine r_getP dX1_arrange_54 rfl (by decide) rfl hK hP ?_
  refine r_g (pc' := 58) (ls' := [some (.ref r0), some (.int x1), some (.int x2), some (.ref r3), some (.int x4)]) (st' := [.ref r3, .ref b1]) dX1_arrange_57 (fun _ => rfl) ?_
  obtain ⟨hK, b2, hP, h⟩ := h
  refine r_getP dX1_arrange_58 rfl (by decide) rfl hK hP ?_
  obtain ⟨hK, h⟩ := h
  exact r_call (th := false) dX1_arrange_61 (fun _ => ex_calV rfl (by decide)) rfl (Nat.le_of_ble_eq_true rfl) (Nat.le_of_ble_eq_true rfl) (Nat.le_of_ble_eq_true rfl) (rcv0 rfl rfl (by decide) hK) rfl rfl rfl (fun q => nomatch q) h
theorem b10_64 {g : Nat → Nat} {C S : Nat} {σ : PS} {Q : Rs → PS → Prop} {r0 : Nat} {x1 : Int32} {x2 : Int32} {r3 : Nat} {x4 : Int32} {u0 : Int32}
    (h : ((u0 : Int32) ≤ 0 → WP g C S 10 97 [some (.ref r0), some (.int x1), some (.int x2), some (.ref r3), some (.int x4)] [] σ Q) ∧ (¬ ((u0 : Int32) ≤ 0) → zK σ r0 = 3 ∧ ∃ b1, zP σ r0 0 = some b1 ∧ (zK σ r0 = 3 ∧ ∃ b2, zP σ r0 0 = some b2 ∧ (zK σ b2 = 1 ∧ WP g C S 163 0 [some (.ref b2), some (.int (x4 - 1))] [] σ (KK g C S 10 84 [some (.ref r0), some (.int x1), some (.int x2), some (.ref r3), some (.int x4)] [.int x4, .ref b1] Q false))))) :
    WP g C S 10 64 [some (.ref r0), some (.int x1), some (.int x2), some (.ref r3), some (.int x4)] [.int u0] σ Q := by
  obtain ⟨h1, h2⟩ := h
  refine r_if (t := 97) dX1_arrange_64 (by decide) c_le (fun c => ?_) (fun c => ?_)
  · have h := h1 c
    exact h
  · have h := h2 c
    refine r_g (pc' := 68) (ls' := [some (.ref r0), some (.int x1), some (.int x2), some (.ref r3), some (.int x4)]) (st' := [.ref r0]) dX1_arrange_67 (fun _ => rfl) ?_
    obtain ⟨hK, b1, hP, h⟩ := h
    refine r_getP dX1_arrange_68 rfl (by decide) rfl hK hP ?_
    refine r_g (pc' := 73) (ls' := [some (.ref r0), some (.int x1), some (.int x2), some (.ref r3), some (.int x4)]) (st' := [.int x4, .ref b1]) dX1_arrange_71 (fun _ => rfl) ?_
    refine r_g (pc' := 74) (ls' := [some (.ref r0), some (.int x1), some (.int x2), some (.ref r3), some (.int x4)]) (st' := [.ref r0, .int x4, .ref b1]) dX1_arrange_73 (fun _ => rfl) ?_
    obtain ⟨hK, b2, hP, h⟩ := h
    refine r_getP dX1_arrange_74 rfl (by decide) rfl hK hP ?_
    refine r_g (pc' := 79) (ls' := [some (.ref r0), some (.int x1), some (.int x2), some (.ref r3), some (.int x4)]) (st' := [.int x4, .ref b2, .int x4, .ref b1]) dX1_arrange_77 (fun _ => rfl) ?_
    refine r_ic (v := 1) dX1_arrange_79 (by decide) ?_
    refine r_g (pc' := 81) (ls' := [some (.ref r0), some (.int x1), some (.int x2), some (.ref r3), some (.int x4)]) (st' := [.int (x4 - 1), .ref b2, .int x4, .ref b1]) dX1_arrange_80 (fun _ => rfl) ?_
    obtain ⟨hK, h⟩ := h
    exact r_call (th := false) dX1_arrange_81 (fun _ => ex_calV rfl (by decide)) rfl (Nat.le_of_ble_eq_true rfl) (Nat.le_of_ble_eq_true rfl) (Nat.le_of_ble_eq_true rfl) (rcv0 rfl rfl (by decide) hK) rfl rfl rfl (fun q => nomatch q) h
theorem b10_84 {g : Nat → Nat} {C S : Nat} {σ : PS} {Q : Rs → PS → Prop} {r0 : Nat} {x1 : Int32} {x2 : Int32} {r3 : Nat} {x4 : Int32} {w0 : Nat} {u1 : Int32} {w2 : Nat}
    (h : zK σ w0 = 6 ∧ zK σ w2 = 1 ∧ WP g C S 164 0 [some (.ref w2), some (.int u1), some (.ref w0), none] [] σ (KK g C S 10 90 [some (.ref r0), some (.int x1), some (.int x2), some (.ref r3), some (.int x4)] [] Q false)) :
    WP g C S 10 84 [some (.ref r0), some (.int x1), some (.int x2), some (.ref r3), some (.int x4)] [.ref w0, .int u1, .ref w2] σ Q := by
  obtain ⟨hK, h⟩ := h
  refine r_chk dX1_arrange_84 rfl (Or.inl ⟨by decide, hK⟩) ?_
  obtain ⟨hK, h⟩ := h
  exact r_call (th := false) dX1_arrange_87 (fun _ => ex_calV rfl (by decide)) rfl (Nat.le_of_ble_eq_true rfl) (Nat.le_of_ble_eq_true rfl) (Nat.le_of_ble_eq_true rfl) (rcv0 rfl rfl (by decide) hK) rfl rfl rfl (fun q => nomatch q) h
theorem b10_90 {g : Nat → Nat} {C S : Nat} {σ : PS} {Q : Rs → PS → Prop} {r0 : Nat} {x1 : Int32} {x2 : Int32} {r3 : Nat} {x4 : Int32} {w0 : Nat}
    (h : WP g C S 10 35 [some (.ref r0), some (.int x1), some (.int x2), some (.ref r3), some (.int (x4 + (-1)))] [] σ Q) :
    WP g C S 10 90 [some (.ref r0), some (.int x1), some (.int x2), some (.ref r3), some (.int x4)] [.ref w0] σ Q := by
  refine r_g (pc' := 91) (ls' := [some (.ref r0), some (.int x1), some (.int x2), some (.ref r3), some (.int x4)]) (st' := []) dX1_arrange_90 (fun _ => rfl) ?_
  refine r_inc (v := -1) (ls' := [some (.ref r0), some (.int x1), some (.int x2), some (.ref r3), some (.int (x4 + (-1)))]) dX1_arrange_91 rfl (Nat.le_of_ble_eq_true rfl) (by decide) rfl ?_
  refine r_goto (t := 35) dX1_arrange_94 (by decide) ?_
  exact h
theorem b10_97 {g : Nat → Nat} {C S : Nat} {σ : PS} {Q : Rs → PS → Prop} {r0 : Nat} {x1 : Int32} {x2 : Int32} {r3 : Nat} {x4 : Int32}
    (h : zK σ r0 = 3 ∧ ∃ b1, zP σ r0 0 = some b1 ∧ (zK σ b1 = 1 ∧ WP g C S 164 0 [some (.ref b1), some (.int x4), some (.ref r3), none] [] σ (KK g C S 10 107 [some (.ref r0), some (.int x1), some (.int x2), some (.ref r3), some (.int x4)] [] Q false))) :
    WP g C S 10 97 [some (.ref r0), some (.int x1), some (.int x2), some (.ref r3), some (.int x4)] [] σ Q := by
  refine r_g (pc' := 98) (ls' := [some (.ref r0), some (.int x1), some (.int x2), some (.ref r3), some (.int x4)]) (st' := [.ref r0]) dX1_arrange_97 (fun _ => rfl) ?_
  obtain ⟨hK, b1, hP, h⟩ := h
  refine r_getP dX1_arrange_98 rfl (by decide) rfl hK hP ?_
  refine r_g (pc' := 103) (ls' := [some (.ref r0), some (.int x1), some (.int x2), some (.ref r3), some (.int x4)]) (st' := [.int x4, .ref b1]) dX1_arrange_101 (fun _ => rfl) ?_
  refine r_g (pc' := 104) (ls' := [some (.ref r0), some (.int x1), some (.int x2), some (.ref r3), some (.int x4)]) (st' := [.ref r3, .int x4, .ref b1]) dX1_arrange_103 (fun _ => rfl) ?_
  obtain ⟨hK, h⟩ := h
  exact r_call (th := false) dX1_arrange_104 (fun _ => ex_calV rfl (by decide)) rfl (Nat.le_of_ble_eq_true rfl) (Nat.le_of_ble_eq_true rfl) (Nat.le_of_ble_eq_true rfl) (rcv0 rfl rfl (by decide) hK) rfl rfl rfl (fun q => nomatch q) h
theorem b10_107 {g : Nat → Nat} {C S : Nat} {σ : PS} {Q : Rs → PS → Prop} {r0 : Nat} {x1 : Int32} {x2 : Int32} {l3 : Option Value} {l4 : Option Value} {w0 : Nat}
    (h : WP g C S 10 7 [some (.ref r0), some (.int x1), some (.int (x2 + 1)), l3, l4] [] σ Q) :
    WP g C S 10 107 [some (.ref r0), some (.int x1), some (.int x2), l3, l4] [.ref w0] σ Q := by
  refine r_g (pc' := 108) (ls' := [some (.ref r0), some (.int x1), some (.int x2), l3, l4]) (st' := []) dX1_arrange_107 (fun _ => rfl) ?_
  refine r_inc (v := 1) (ls' := [some (.ref r0), some (.int x1), some (.int (x2 + 1)), l3, l4]) dX1_arrange_108 rfl (Nat.le_of_ble_eq_true rfl) (by decide) rfl ?_
  refine r_goto (t := 7) dX1_arrange_111 (by decide) ?_
  exact h
theorem b11_0 {g : Nat → Nat} {C S : Nat} {σ : PS} {Q : Rs → PS → Prop} {r0 : Nat} {x1 : Int32} {l2 : Option Value}
    (h : WP g C S 11 2 [some (.ref r0), some (.int x1), some (.int 0)] [] σ Q) :
    WP g C S 11 0 [some (.ref r0), some (.int x1), l2] [] σ Q := by
  refine r_ic (v := 0) dX1_setBases_0 (by decide) ?_
  refine r_g (pc' := 2) (ls' := [some (.ref r0), some (.int x1), some (.int 0)]) (st' := []) dX1_setBases_1 (fun _ => rfl) ?_
  exact h
theorem b11_2 {g : Nat → Nat} {C S : Nat} {σ : PS} {Q : Rs → PS → Prop} {r0 : Nat} {x1 : Int32} {x2 : Int32}
    (h : zK σ r0 = 3 ∧ ((zI σ r0 1 : Int32) ≤ x2 → Q (Sum.inl none) σ) ∧ (¬ ((zI σ r0 1 : Int32) ≤ x2) → zK σ r0 = 3 ∧ ∃ b1, zP σ r0 0 = some b1 ∧ (zK σ b1 = 1 ∧ WP g C S 163 0 [some (.ref b1), some (.int x2)] [] σ (KK g C S 11 18 [some (.ref r0), some (.int x1), some (.int x2)] [] Q false)))) :
    WP g C S 11 2 [some (.ref r0), some (.int x1), some (.int x2)] [] σ Q := by
  refine r_g (pc' := 3) (ls' := [some (.ref r0), some (.int x1), some (.int x2)]) (st' := [.int x2]) dX1_setBases_2 (fun _ => rfl) ?_
  refine r_g (pc' := 4) (ls' := [some (.ref r0), some (.int x1), some (.int x2)]) (st' := [.ref r0, .int x2]) dX1_setBases_3 (fun _ => rfl) ?_
  obtain ⟨hK, h⟩ := h
  refine r_getI dX1_setBases_4 rfl (by decide) rfl hK ?_
  obtain ⟨h1, h2⟩ := h
  refine r_icmp (t := 46) dX1_setBases_7 (by decide) c_ge (fun c => ?_) (fun c => ?_)
  · have h := h1 c
    exact r_vret dX1_setBases_46 rfl h
  · have h := h2 c
    refine r_g (pc' := 11) (ls' := [some (.ref r0), some (.int x1), some (.int x2)]) (st' := [.ref r0]) dX1_setBases_10 (fun _ => rfl) ?_
    obtain ⟨hK, b1, hP, h⟩ := h
    refine r_getP dX1_setBases_11 rfl (by decide) rfl hK hP ?_
    refine r_g (pc' := 15) (ls' := [some (.ref r0), some (.int x1), some (.int x2)]) (st' := [.int x2, .ref b1]) dX1_setBases_14 (fun _ => rfl) ?_
    obtain ⟨hK, h⟩ := h
    exact r_call (th := false) dX1_setBases_15 (fun _ => ex_calV rfl (by decide)) rfl (Nat.le_of_ble_eq_true rfl) (Nat.le_of_ble_eq_true rfl) (Nat.le_of_ble_eq_true rfl) (rcv0 rfl rfl (by decide) hK) rfl rfl rfl (fun q => nomatch q) h
theorem b11_18 {g : Nat → Nat} {C S : Nat} {σ : PS} {Q : Rs → PS → Prop} {r0 : Nat} {x1 : Int32} {x2 : Int32} {w0 : Nat}
    (h : zK σ w0 = 6 ∧ zK σ r0 = 3 ∧ ∃ b1, zP σ r0 0 = some b1 ∧ (zK σ b1 = 1 ∧ WP g C S 163 0 [some (.ref b1), some (.int x2)] [] σ (KK g C S 11 31 [some (.ref r0), some (.int x1), some (.int x2)] [.ref r0, .int x1, .ref w0] Q false))) :
    WP g C S 11 18 [some (.ref r0), some (.int x1), some (.int x2)] [.ref w0] σ Q := by
  obtain ⟨hK, h⟩ := h
  refine r_chk dX1_setBases_18 rfl (Or.inl ⟨by decide, hK⟩) ?_
  refine r_g (pc' := 22) (ls' := [some (.ref r0), some (.int x1), some (.int x2)]) (st' := [.int x1, .ref w0]) dX1_setBases_21 (fun _ => rfl) ?_
  refine r_g (pc' := 23) (ls' := [some (.ref r0), some (.int x1), some (.int x2)]) (st' := [.ref r0, .int x1, .ref w0]) dX1_setBases_22 (fun _ => rfl) ?_
  refine r_g (pc' := 24) (ls' := [some (.ref r0), some (.int x1), some (.int x2)]) (st' := [.ref r0, .ref r0, .int x1, .ref w0]) dX1_setBases_23 (fun _ => rfl) ?_
  obtain ⟨hK, b1, hP, h⟩ := h
  refine r_getP dX1_setBases_24 rfl (by decide) rfl hK hP ?_
  refine r_g (pc' := 28) (ls' := [some (.ref r0), some (.int x1), some (.int x2)]) (st' := [.int x2, .ref b1, .ref r0, .int x1, .ref w0]) dX1_setBases_27 (fun _ => rfl) ?_
  obtain ⟨hK, h⟩ := h
  exact r_call (th := false) dX1_setBases_28 (fun _ => ex_calV rfl (by decide)) rfl (Nat.le_of_ble_eq_true rfl) (Nat.le_of_ble_eq_true rfl) (Nat.le_of_ble_eq_true rfl) (rcv0 rfl rfl (by decide) hK) rfl rfl rfl (fun q => nomatch q) h
theorem b11_31 {g : Nat → Nat} {C S : Nat} {σ : PS} {Q : Rs → PS → Prop} {r0 : Nat} {x1 : Int32} {x2 : Int32} {w0 : Nat} {w1 : Nat} {u2 : Int32} {w3 : Nat}
    (h : zK σ w0 = 6 ∧ zK σ w1 = 3 ∧ WP g C S 12 0 [some (.ref w1), some (.ref w0), none] [] σ (KK g C S 11 37 [some (.ref r0), some (.int x1), some (.int x2)] [.int u2, .ref w3] Q false)) :
    WP g C S 11 31 [some (.ref r0), some (.int x1), some (.int x2)] [.ref w0, .ref w1, .int u2, .ref w3] σ Q := by
  obtain ⟨hK, h⟩ := h
  refine r_chk dX1_setBases_31 rfl (Or.inl ⟨by decide, hK⟩) ?_
  obtain ⟨hK, h⟩ := h
  exact r_call (th := false) dX1_setBases_34 (fun _ => ex_calV rfl (by decide)) rfl (Nat.le_of_ble_eq_true rfl) (Nat.le_of_ble_eq_true rfl) (Nat.le_of_ble_eq_true rfl) (rcv0 rfl rfl (by decide) hK) rfl rfl rfl (fun q => nomatch q) h
theorem b11_37 {g : Nat → Nat} {C S : Nat} {σ : PS} {Q : Rs → PS → Prop} {r0 : Nat} {x1 : Int32} {x2 : Int32} {u0 : Int32} {u1 : Int32} {w2 : Nat}
    (h : zK σ w2 = 6 ∧ WP g C S 43 0 [some (.ref w2), some (.int u1), some (.int u0)] [] σ (KK g C S 11 40 [some (.ref r0), some (.int x1), some (.int x2)] [] Q false)) :
    WP g C S 11 37 [some (.ref r0), some (.int x1), some (.int x2)] [.int u0, .int u1, .ref w2] σ Q := by
  obtain ⟨hK, h⟩ := h
  exact r_call (th := false) dX1_setBases_37 (fun _ => ex_calV rfl (by decide)) rfl (Nat.le_of_ble_eq_true rfl) (Nat.le_of_ble_eq_true rfl) (Nat.le_of_ble_eq_true rfl) (rcv0 rfl rfl (by decide) hK) rfl rfl rfl (fun q => nomatch q) h
theorem b11_40 {g : Nat → Nat} {C S : Nat} {σ : PS} {Q : Rs → PS → Prop} {r0 : Nat} {x1 : Int32} {x2 : Int32}
    (h : WP g C S 11 2 [some (.ref r0), some (.int x1), some (.int (x2 + 1))] [] σ Q) :
    WP g C S 11 40 [some (.ref r0), some (.int x1), some (.int x2)] [] σ Q := by
  refine r_inc (v := 1) (ls' := [some (.ref r0), some (.int x1), some (.int (x2 + 1))]) dX1_setBases_40 rfl (Nat.le_of_ble_eq_true rfl) (by decide) rfl ?_
  refine r_goto (t := 2) dX1_setBases_43 (by decide) ?_
  exact h
theorem b12_0 {g : Nat → Nat} {C S : Nat} {σ : PS} {Q : Rs → PS → Prop} {r0 : Nat} {r1 : Nat} {l2 : Option Value}
    (h : WP g C S 12 2 [some (.ref r0), some (.ref r1), some (.int 0)] [] σ Q) :
    WP g C S 12 0 [some (.ref r0), some (.ref r1), l2] [] σ Q := by
  refine r_ic (v := 0) dX1_isMistaken_0 (by decide) ?_
  refine r_g (pc' := 2) (ls' := [some (.ref r0), some (.ref r1), some (.int 0)]) (st' := []) dX1_isMistaken_1 (fun _ => rfl) ?_
  exact h
theorem b12_2 {g : Nat → Nat} {C S : Nat} {σ : PS} {Q : Rs → PS → Prop} {r0 : Nat} {r1 : Nat} {x2 : Int32}
    (h : zK σ r0 = 3 ∧ ((zI σ r0 1 : Int32) ≤ x2 → Q (Sum.inl (some (.int 0))) σ) ∧ (¬ ((zI σ r0 1 : Int32) ≤ x2) → zK σ r0 = 3 ∧ ∃ b1, zP σ r0 0 = some b1 ∧ (zK σ b1 = 1 ∧ WP g C S 163 0 [some (.ref b1), some (.int x2)] [] σ (KK g C S 12 19 [some (.ref r0), some (.ref r1), some (.int x2)] [.ref r1] Q false)))) :
    WP g C S 12 2 [some (.ref r0), some (.ref r1), some (.int x2)] [] σ Q := by
  refine r_g (pc' := 3) (ls' := [some (.ref r0), some (.ref r1), some (.int x2)]) (st' := [.int x2]) dX1_isMistaken_2 (fun _ => rfl) ?_
  refine r_g (pc' := 4) (ls' := [some (.ref r0), some (.ref r1), some (.int x2)]) (st' := [.ref r0, .int x2]) dX1_isMistaken_3 (fun _ => rfl) ?_
  obtain ⟨hK, h⟩ := h
  refine r_getI dX1_isMistaken_4 rfl (by decide) rfl hK ?_
  obtain ⟨h1, h2⟩ := h
  refine r_icmp (t := 36) dX1_isMistaken_7 (by decide) c_ge (fun c => ?_) (fun c => ?_)
  · have h := h1 c
    refine r_ic (v := 0) dX1_isMistaken_36 (by decide) ?_
    exact r_ret dX1_isMistaken_37 rfl h
  · have h := h2 c
    refine r_g (pc' := 11) (ls' := [some (.ref r0), some (.ref r1), some (.int x2)]) (st' := [.ref r1]) dX1_isMistaken_10 (fun _ => rfl) ?_
    refine r_g (pc' := 12) (ls' := [some (.ref r0), some (.ref r1), some (.int x2)]) (st' := [.ref r0, .ref r1]) dX1_isMistaken_11 (fun _ => rfl) ?_
    obtain ⟨hK, b1, hP, h⟩ := h
    refine r_getP dX1_isMistaken_12 rfl (by decide) rfl hK hP ?_
    refine r_g (pc' := 16) (ls' := [some (.ref r0), some (.ref r1), some (.int x2)]) (st' := [.int x2, .ref b1, .ref r1]) dX1_isMistaken_15 (fun _ => rfl) ?_
    obtain ⟨hK, h⟩ := h
    exact r_call (th := false) dX1_isMistaken_16 (fun _ => ex_calV rfl (by decide)) rfl (Nat.le_of_ble_eq_true rfl) (Nat.le_of_ble_eq_true rfl) (Nat.le_of_ble_eq_true rfl) (rcv0 rfl rfl (by decide) hK) rfl rfl rfl (fun q => nomatch q) h
theorem b12_19 {g : Nat → Nat} {C S : Nat} {σ : PS} {Q : Rs → PS → Prop} {r0 : Nat} {r1 : Nat} {x2 : Int32} {w0 : Nat} {w1 : Nat}
    (h : zK σ w0 = 6 ∧ zK σ w1 = 6 ∧ WP g C S 42 0 [some (.ref w1), some (.ref w0)] [] σ (KK g C S 12 25 [some (.ref r0), some (.ref r1), some (.int x2)] [] Q false)) :
    WP g C S 12 19 [some (.ref r0), some (.ref r1), some (.int x2)] [.ref w0, .ref w1] σ Q := by
  obtain ⟨hK, h⟩ := h
  refine r_chk dX1_isMistaken_19 rfl (Or.inl ⟨by decide, hK⟩) ?_
  obtain ⟨hK, h⟩ := h
  exact r_call (th := false) dX1_isMistaken_22 (fun _ => ex_calV rfl (by decide)) rfl (Nat.le_of_ble_eq_true rfl) (Nat.le_of_ble_eq_true rfl) (Nat.le_of_ble_eq_true rfl) (rcv0 rfl rfl (by decide) hK) rfl rfl rfl (fun q => nomatch q) h
theorem b12_25 {g : Nat → Nat} {C S : Nat} {σ : PS} {Q : Rs → PS → Prop} {r0 : Nat} {r1 : Nat} {x2 : Int32} {u0 : Int32}
    (h : ((u0 : Int32) = 0 → WP g C S 12 2 [some (.ref r0), some (.ref r1), some (.int (x2 + 1))] [] σ Q) ∧ (¬ ((u0 : Int32) = 0) → Q (Sum.inl (some (.int 1))) σ)) :
    WP g C S 12 25 [some (.ref r0), some (.ref r1), some (.int x2)] [.int u0] σ Q := by
  obtain ⟨h1, h2⟩ := h
  refine r_if (t := 30) dX1_isMistaken_25 (by decide) c_eq (fun c => ?_) (fun c => ?_)
  · have h := h1 c
    refine r_inc (v := 1) (ls' := [some (.ref r0), some (.ref r1), some (.int (x2 + 1))]) dX1_isMistaken_30 rfl (Nat.le_of_ble_eq_true rfl) (by decide) rfl ?_
    refine r_goto (t := 2) dX1_isMistaken_33 (by decide) ?_
    exact h
  · have h := h2 c
    refine r_ic (v := 1) dX1_isMistaken_28 (by decide) ?_
    exact r_ret dX1_isMistaken_29 rfl h
theorem b13_0 {g : Nat → Nat} {C S : Nat} {σ : PS} {Q : Rs → PS → Prop} {r0 : Nat} {l1 : Option Value}
    (h : WP g C S 13 2 [some (.ref r0), some (.int 0)] [] σ Q) :
    WP g C S 13 0 [some (.ref r0), l1] [] σ Q := by
  refine r_ic (v := 0) dX1_setSuffixes_0 (by decide) ?_
  refine r_g (pc' := 2) (ls' := [some (.ref r0), some (.int 0)]) (st' := []) dX1_setSuffixes_1 (fun _ => rfl) ?_
  exact h
theorem b13_2 {g : Nat → Nat} {C S : Nat} {σ : PS} {Q : Rs → PS → Prop} {r0 : Nat} {x1 : Int32}
    (h : zK σ r0 = 3 ∧ ((zI σ r0 1 : Int32) ≤ x1 → WP g C S 13 33 [some (.ref r0), some (.int 0)] [] σ Q) ∧ (¬ ((zI σ r0 1 : Int32) ≤ x1) → zK σ r0 = 3 ∧ ∃ b1, zP σ r0 0 = some b1 ∧ (zK σ b1 = 1 ∧ WP g C S 163 0 [some (.ref b1), some (.int x1)] [] σ (KK g C S 13 18 [some (.ref r0), some (.int x1)] [] Q false)))) :
    WP g C S 13 2 [some (.ref r0), some (.int x1)] [] σ Q := by
  refine r_g (pc' := 3) (ls' := [some (.ref r0), some (.int x1)]) (st' := [.int x1]) dX1_setSuffixes_2 (fun _ => rfl) ?_
  refine r_g (pc' := 4) (ls' := [some (.ref r0), some (.int x1)]) (st' := [.ref r0, .int x1]) dX1_setSuffixes_3 (fun _ => rfl) ?_
  obtain ⟨hK, h⟩ := h
  refine r_getI dX1_setSuffixes_4 rfl (by decide) rfl hK ?_
  obtain ⟨h1, h2⟩ := h
  refine r_icmp (t := 31) dX1_setSuffixes_7 (by decide) c_ge (fun c => ?_) (fun c => ?_)
  · have h := h1 c
    refine r_ic (v := 0) dX1_setSuffixes_31 (by decide) ?_
    refine r_g (pc' := 33) (ls' := [some (.ref r0), some (.int 0)]) (st' := []) dX1_setSuffixes_32 (fun _ => rfl) ?_
    exact h
  · have h := h2 c
    refine r_g (pc' := 11) (ls' := [some (.ref r0), some (.int x1)]) (st' := [.ref r0]) dX1_setSuffixes_10 (fun _ => rfl) ?_
    obtain ⟨hK, b1, hP, h⟩ := h
    refine r_getP dX1_setSuffixes_11 rfl (by decide) rfl hK hP ?_
    refine r_g (pc' := 15) (ls' := [some (.ref r0), some (.int x1)]) (st' := [.int x1, .ref b1]) dX1_setSuffixes_14 (fun _ => rfl) ?_
    obtain ⟨hK, h⟩ := h
    exact r_call (th := false) dX1_setSuffixes_15 (fun _ => ex_calV rfl (by decide)) rfl (Nat.le_of_ble_eq_true rfl) (Nat.le_of_ble_eq_true rfl) (Nat.le_of_ble_eq_true rfl) (rcv0 rfl rfl (by decide) hK) rfl rfl rfl (fun q => nomatch q) h
theorem b13_18 {g : Nat → Nat} {C S : Nat} {σ : PS} {Q : Rs → PS → Prop} {r0 : Nat} {x1 : Int32} {w0 : Nat}
    (h : zK σ w0 = 6 ∧ zK σ w0 = 6 ∧ (∀ τ1, τ1 = stI σ w0 6 0 → WP g C S 13 2 [some (.ref r0), some (.int (x1 + 1))] [] τ1 Q)) :
    WP g C S 13 18 [some (.ref r0), some (.int x1)] [.ref w0] σ Q := by
  obtain ⟨hK, h⟩ := h
  refine r_chk dX1_setSuffixes_18 rfl (Or.inl ⟨by decide, hK⟩) ?_
  refine r_ic (v := 0) dX1_setSuffixes_21 (by decide) ?_
  obtain ⟨hK, h⟩ := h
  refine r_putI dX1_setSuffixes_22 rfl (by decide) (Or.inl rfl) rfl (Or.inl rfl) hK ?_
  generalize eτ1 : stI σ w0 6 0 = τ1
  replace h := h _ eτ1.symm
  refine r_inc (v := 1) (ls' := [some (.ref r0), some (.int (x1 + 1))]) dX1_setSuffixes_25 rfl (Nat.le_of_ble_eq_true rfl) (by decide) rfl ?_
  refine r_goto (t := 2) dX1_setSuffixes_28 (by decide) ?_
  exact h
theorem b13_33 {g : Nat → Nat} {C S : Nat} {σ : PS} {Q : Rs → PS → Prop} {r0 : Nat} {x1 : Int32}
    (h : zK σ r0 = 3 ∧ ((zI σ r0 1 : Int32) ≤ x1 → Q (Sum.inl none) σ) ∧ (¬ ((zI σ r0 1 : Int32) ≤ x1) → zK σ r0 = 3 ∧ ∃ b1, zP σ r0 0 = some b1 ∧ (zK σ b1 = 1 ∧ WP g C S 163 0 [some (.ref b1), some (.int x1)] [] σ (KK g C S 13 49 [some (.ref r0), some (.int x1)] [] Q false)))) :
    WP g C S 13 33 [some (.ref r0), some (.int x1)] [] σ Q := by
  refine r_g (pc' := 34) (ls' := [some (.ref r0), some (.int x1)]) (st' := [.int x1]) dX1_setSuffixes_33 (fun _ => rfl) ?_
  refine r_g (pc' := 35) (ls' := [some (.ref r0), some (.int x1)]) (st' := [.ref r0, .int x1]) dX1_setSuffixes_34 (fun _ => rfl) ?_
  obtain ⟨hK, h⟩ := h
  refine r_getI dX1_setSuffixes_35 rfl (by decide) rfl hK ?_
  obtain ⟨h1, h2⟩ := h
  refine r_icmp (t := 89) dX1_setSuffixes_38 (by decide) c_ge (fun c => ?_) (fun c => ?_)
  · have h := h1 c
    exact r_vret dX1_setSuffixes_89 rfl h
  · have h := h2 c
    refine r_g (pc' := 42) (ls' := [some (.ref r0), some (.int x1)]) (st' := [.ref r0]) dX1_setSuffixes_41 (fun _ => rfl) ?_
    obtain ⟨hK, b1, hP, h⟩ := h
    refine r_getP dX1_setSuffixes_42 rfl (by decide) rfl hK hP ?_
    refine r_g (pc' := 46) (ls' := [some (.ref r0), some (.int x1)]) (st' := [.int x1, .ref b1]) dX1_setSuffixes_45 (fun _ => rfl) ?_
    obtain ⟨hK, h⟩ := h
    exact r_call (th := false) dX1_setSuffixes_46 (fun _ => ex_calV rfl (by decide)) rfl (Nat.le_of_ble_eq_true rfl) (Nat.le_of_ble_eq_true rfl) (Nat.le_of_ble_eq_true rfl) (rcv0 rfl rfl (by decide) hK) rfl rfl rfl (fun q => nomatch q) h
theorem b13_49 {g : Nat → Nat} {C S : Nat} {σ : PS} {Q : Rs → PS → Prop} {r0 : Nat} {x1 : Int32} {w0 : Nat}
    (h : zK σ w0 = 6 ∧ zK σ w0 = 6 ∧ (¬ (zI σ w0 6 : Int32) = 0 → WP g C S 13 83 [some (.ref r0), some (.int x1)] [] σ Q) ∧ (¬ (¬ (zI σ w0 6 : Int32) = 0) → zK σ r0 = 3 ∧ ∃ b1, zP σ r0 0 = some b1 ∧ (zK σ b1 = 1 ∧ WP g C S 163 0 [some (.ref b1), some (.int x1)] [] σ (KK g C S 13 66 [some (.ref r0), some (.int x1)] [] Q false)))) :
    WP g C S 13 49 [some (.ref r0), some (.int x1)] [.ref w0] σ Q := by
  obtain ⟨hK, h⟩ := h
  refine r_chk dX1_setSuffixes_49 rfl (Or.inl ⟨by decide, hK⟩) ?_
  obtain ⟨hK, h⟩ := h
  refine r_getI dX1_setSuffixes_52 rfl (by decide) rfl hK ?_
  obtain ⟨h1, h2⟩ := h
  refine r_if (t := 83) dX1_setSuffixes_55 (by decide) c_ne (fun c => ?_) (fun c => ?_)
  · have h := h1 c
    exact h
  · have h := h2 c
    refine r_g (pc' := 59) (ls' := [some (.ref r0), some (.int x1)]) (st' := [.ref r0]) dX1_setSuffixes_58 (fun _ => rfl) ?_
    obtain ⟨hK, b1, hP, h⟩ := h
    refine r_getP dX1_setSuffixes_59 rfl (by decide) rfl hK hP ?_
    refine r_g (pc' := 63) (ls' := [some (.ref r0), some (.int x1)]) (st' := [.int x1, .ref b1]) dX1_setSuffixes_62 (fun _ => rfl) ?_
    obtain ⟨hK, h⟩ := h
    exact r_call (th := false) dX1_setSuffixes_63 (fun _ => ex_calV rfl (by decide)) rfl (Nat.le_of_ble_eq_true rfl) (Nat.le_of_ble_eq_true rfl) (Nat.le_of_ble_eq_true rfl) (rcv0 rfl rfl (by decide) hK) rfl rfl rfl (fun q => nomatch q) h
theorem b13_66 {g : Nat → Nat} {C S : Nat} {σ : PS} {Q : Rs → PS → Prop} {r0 : Nat} {x1 : Int32} {w0 : Nat}
    (h : zK σ w0 = 6 ∧ zK σ w0 = 6 ∧ ∃ b1, zP σ w0 5 = some b1 ∧ (zK σ b1 = 7 ∧ WP g C S 55 0 [some (.ref b1)] [] σ (KK g C S 13 75 [some (.ref r0), some (.int x1)] [] Q false))) :
    WP g C S 13 66 [some (.ref r0), some (.int x1)] [.ref w0] σ Q := by
  obtain ⟨hK, h⟩ := h
  refine r_chk dX1_setSuffixes_66 rfl (Or.inl ⟨by decide, hK⟩) ?_
  obtain ⟨hK, b1, hP, h⟩ := h
  refine r_getP dX1_setSuffixes_69 rfl (by decide) rfl hK hP ?_
  obtain ⟨hK, h⟩ := h
  exact r_call (th := false) dX1_setSuffixes_72 (fun _ => ex_calV rfl (by decide)) rfl (Nat.le_of_ble_eq_true rfl) (Nat.le_of_ble_eq_true rfl) (Nat.le_of_ble_eq_true rfl) (rcv0 rfl rfl (by decide) hK) rfl rfl rfl (fun q => nomatch q) h
theorem b13_75 {g : Nat → Nat} {C S : Nat} {σ : PS} {Q : Rs → PS → Prop} {r0 : Nat} {x1 : Int32} {u0 : Int32}
    (h : (¬ (u0 : Int32) = 0 → WP g C S 13 83 [some (.ref r0), some (.int x1)] [] σ Q) ∧ (¬ (¬ (u0 : Int32) = 0) → zK σ r0 = 3 ∧ WP g C S 14 0 [some (.ref r0), some (.int x1), none, none, none] [] σ (KK g C S 13 83 [some (.ref r0), some (.int x1)] [] Q false))) :
    WP g C S 13 75 [some (.ref r0), some (.int x1)] [.int u0] σ Q := by
  obtain ⟨h1, h2⟩ := h
  refine r_if (t := 83) dX1_setSuffixes_75 (by decide) c_ne (fun c => ?_) (fun c => ?_)
  · have h := h1 c
    exact h
  · have h := h2 c
    refine r_g (pc' := 79) (ls' := [some (.ref r0), some (.int x1)]) (st' := [.ref r0]) dX1_setSuffixes_78 (fun _ => rfl) ?_
    refine r_g (pc' := 80) (ls' := [some (.ref r0), some (.int x1)]) (st' := [.int x1, .ref r0]) dX1_setSuffixes_79 (fun _ => rfl) ?_
    obtain ⟨hK, h⟩ := h
    exact r_call (th := false) dX1_setSuffixes_80 (fun _ => ex_calV rfl (by decide)) rfl (Nat.le_of_ble_eq_true rfl) (Nat.le_of_ble_eq_true rfl) (Nat.le_of_ble_eq_true rfl) (rcv0 rfl rfl (by decide) hK) rfl rfl rfl (fun q => nomatch q) h
theorem b13_83 {g : Nat → Nat} {C S : Nat} {σ : PS} {Q : Rs → PS → Prop} {r0 : Nat} {x1 : Int32}
    (h : WP g C S 13 33 [some (.ref r0), some (.int (x1 + 1))] [] σ Q) :
    WP g C S 13 83 [some (.ref r0), some (.int x1)] [] σ Q := by
  refine r_inc (v := 1) (ls' := [some (.ref r0), some (.int (x1 + 1))]) dX1_setSuffixes_83 rfl (Nat.le_of_ble_eq_true rfl) (by decide) rfl ?_
  refine r_goto (t := 33) dX1_setSuffixes_86 (by decide) ?_
  exact h
theorem b14_0 {g : Nat → Nat} {C S : Nat} {σ : PS} {Q : Rs → PS → Prop} {r0 : Nat} {x1 : Int32} {l2 : Option Value} {l3 : Option Value} {l4 : Option Value}
    (h : zK σ r0 = 3 ∧ ∃ b1, zP σ r0 0 = some b1 ∧ (zK σ b1 = 1 ∧ WP g C S 163 0 [some (.ref b1), some (.int x1)] [] σ (KK g C S 14 8 [some (.ref r0), some (.int x1), l2, l3, l4] [] Q false))) :
    WP g C S 14 0 [some (.ref r0), some (.int x1), l2, l3, l4] [] σ Q := by
  refine r_g (pc' := 1) (ls' := [some (.ref r0), some (.int x1), l2, l3, l4]) (st' := [.ref r0]) dX1_markAlike_0 (fun _ => rfl) ?_
  obtain ⟨hK, b1, hP, h⟩ := h
  refine r_getP dX1_markAlike_1 rfl (by decide) rfl hK hP ?_
  refine r_g (pc' := 5) (ls' := [some (.ref r0), some (.int x1), l2, l3, l4]) (st' := [.int x1, .ref b1]) dX1_markAlike_4 (fun _ => rfl) ?_
  obtain ⟨hK, h⟩ := h
  exact r_call (th := false) dX1_markAlike_5 (fun _ => ex_calV rfl (by decide)) rfl (Nat.le_of_ble_eq_true rfl) (Nat.le_of_ble_eq_true rfl) (Nat.le_of_ble_eq_true rfl) (rcv0 rfl rfl (by decide) hK) rfl rfl rfl (fun q => nomatch q) h
theorem b14_8 {g : Nat → Nat} {C S : Nat} {σ : PS} {Q : Rs → PS → Prop} {r0 : Nat} {x1 : Int32} {l2 : Option Value} {l3 : Option Value} {l4 : Option Value} {w0 : Nat}
    (h : zK σ w0 = 6 ∧ WP g C S 14 19 [some (.ref r0), some (.int x1), some (.ref w0), some (.int 1), some (.int (x1 + 1))] [] σ Q) :
    WP g C S 14 8 [some (.ref r0), some (.int x1), l2, l3, l4] [.ref w0] σ Q := by
  obtain ⟨hK, h⟩ := h
  refine r_chk dX1_markAlike_8 rfl (Or.inl ⟨by decide, hK⟩) ?_
  refine r_g (pc' := 12) (ls' := [some (.ref r0), some (.int x1), some (.ref w0), l3, l4]) (st' := []) dX1_markAlike_11 (fun _ => rfl) ?_
  refine r_ic (v := 1) dX1_markAlike_12 (by decide) ?_
  refine r_g (pc' := 14) (ls' := [some (.ref r0), some (.int x1), some (.ref w0), some (.int 1), l4]) (st' := []) dX1_markAlike_13 (fun _ => rfl) ?_
  refine r_g (pc' := 15) (ls' := [some (.ref r0), some (.int x1), some (.ref w0), some (.int 1), l4]) (st' := [.int x1]) dX1_markAlike_14 (fun _ => rfl) ?_
  refine r_ic (v := 1) dX1_markAlike_15 (by decide) ?_
  refine r_g (pc' := 17) (ls' := [some (.ref r0), some (.int x1), some (.ref w0), some (.int 1), l4]) (st' := [.int (x1 + 1)]) dX1_markAlike_16 (fun _ => rfl) ?_
  refine r_g (pc' := 19) (ls' := [some (.ref r0), some (.int x1), some (.ref w0), some (.int 1), some (.int (x1 + 1))]) (st' := []) dX1_markAlike_17 (fun _ => rfl) ?_
  exact h
theorem b14_19 {g : Nat → Nat} {C S : Nat} {σ : PS} {Q : Rs → PS → Prop} {r0 : Nat} {l1 : Option Value} {r2 : Nat} {x3 : Int32} {x4 : Int32}
    (h : zK σ r0 = 3 ∧ ((zI σ r0 1 : Int32) ≤ x4 → Q (Sum.inl none) σ) ∧ (¬ ((zI σ r0 1 : Int32) ≤ x4) → zK σ r0 = 3 ∧ ∃ b1, zP σ r0 0 = some b1 ∧ (zK σ b1 = 1 ∧ WP g C S 163 0 [some (.ref b1), some (.int x4)] [] σ (KK g C S 14 37 [some (.ref r0), l1, some (.ref r2), some (.int x3), some (.int x4)] [] Q false)))) :
    WP g C S 14 19 [some (.ref r0), l1, some (.ref r2), some (.int x3), some (.int x4)] [] σ Q := by
  refine r_g (pc' := 21) (ls' := [some (.ref r0), l1, some (.ref r2), some (.int x3), some (.int x4)]) (st' := [.int x4]) dX1_markAlike_19 (fun _ => rfl) ?_
  refine r_g (pc' := 22) (ls' := [some (.ref r0), l1, some (.ref r2), some (.int x3), some (.int x4)]) (st' := [.ref r0, .int x4]) dX1_markAlike_21 (fun _ => rfl) ?_
  obtain ⟨hK, h⟩ := h
  refine r_getI dX1_markAlike_22 rfl (by decide) rfl hK ?_
  obtain ⟨h1, h2⟩ := h
  refine r_icmp (t := 83) dX1_markAlike_25 (by decide) c_ge (fun c => ?_) (fun c => ?_)
  · have h := h1 c
    exact r_vret dX1_markAlike_83 rfl h
  · have h := h2 c
    refine r_g (pc' := 29) (ls' := [some (.ref r0), l1, some (.ref r2), some (.int x3), some (.int x4)]) (st' := [.ref r0]) dX1_markAlike_28 (fun _ => rfl) ?_
    obtain ⟨hK, b1, hP, h⟩ := h
    refine r_getP dX1_markAlike_29 rfl (by decide) rfl hK hP ?_
    refine r_g (pc' := 34) (ls' := [some (.ref r0), l1, some (.ref r2), some (.int x3), some (.int x4)]) (st' := [.int x4, .ref b1]) dX1_markAlike_32 (fun _ => rfl) ?_
    obtain ⟨hK, h⟩ := h
    exact r_call (th := false) dX1_markAlike_34 (fun _ => ex_calV rfl (by decide)) rfl (Nat.le_of_ble_eq_true rfl) (Nat.le_of_ble_eq_true rfl) (Nat.le_of_ble_eq_true rfl) (rcv0 rfl rfl (by decide) hK) rfl rfl rfl (fun q => nomatch q) h
theorem b14_37 {g : Nat → Nat} {C S : Nat} {σ : PS} {Q : Rs → PS → Prop} {r0 : Nat} {l1 : Option Value} {r2 : Nat} {x3 : Int32} {x4 : Int32} {w0 : Nat}
    (h : zK σ w0 = 6 ∧ zK σ w0 = 6 ∧ ∃ b1, zP σ w0 5 = some b1 ∧ (zK σ r2 = 6 ∧ ∃ b2, zP σ r2 5 = some b2 ∧ (zK σ b1 = 7 ∧ WP g C S 65 0 [some (.ref b1), some (.ref b2)] [] σ (KK g C S 14 50 [some (.ref r0), l1, some (.ref r2), some (.int x3), some (.int x4)] [] Q false)))) :
    WP g C S 14 37 [some (.ref r0), l1, some (.ref r2), some (.int x3), some (.int x4)] [.ref w0] σ Q := by
  obtain ⟨hK, h⟩ := h
  refine r_chk dX1_markAlike_37 rfl (Or.inl ⟨by decide, hK⟩) ?_
  obtain ⟨hK, b1, hP, h⟩ := h
  refine r_getP dX1_markAlike_40 rfl (by decide) rfl hK hP ?_
  refine r_g (pc' := 44) (ls' := [some (.ref r0), l1, some (.ref r2), some (.int x3), some (.int x4)]) (st' := [.ref r2, .ref b1]) dX1_markAlike_43 (fun _ => rfl) ?_
  obtain ⟨hK, b2, hP, h⟩ := h
  refine r_getP dX1_markAlike_44 rfl (by decide) rfl hK hP ?_
  obtain ⟨hK, h⟩ := h
  exact r_call (th := false) dX1_markAlike_47 (fun _ => ex_calV rfl (by decide)) rfl (Nat.le_of_ble_eq_true rfl) (Nat.le_of_ble_eq_true rfl) (Nat.le_of_ble_eq_true rfl) (rcv0 rfl rfl (by decide) hK) rfl rfl rfl (fun q => nomatch q) h
theorem b14_50 {g : Nat → Nat} {C S : Nat} {σ : PS} {Q : Rs → PS → Prop} {r0 : Nat} {l1 : Option Value} {r2 : Nat} {x3 : Int32} {x4 : Int32} {u0 : Int32}
    (h : ((u0 : Int32) = 0 → WP g C S 14 77 [some (.ref r0), l1, some (.ref r2), some (.int x3), some (.int x4)] [] σ Q) ∧ (¬ ((u0 : Int32) = 0) → zK σ r2 = 6 ∧ (∀ τ1, τ1 = stI σ r2 6 1 → zK τ1 r0 = 3 ∧ ∃ b2, zP τ1 r0 0 = some b2 ∧ (zK τ1 b2 = 1 ∧ WP g C S 163 0 [some (.ref b2), some (.int x4)] [] τ1 (KK g C S 14 70 [some (.ref r0), l1, some (.ref r2), some (.int (x3 + 1)), some (.int x4)] [] Q false))))) :
    WP g C S 14 50 [some (.ref r0), l1, some (.ref r2), some (.int x3), some (.int x4)] [.int u0] σ Q := by
  obtain ⟨h1, h2⟩ := h
  refine r_if (t := 77) dX1_markAlike_50 (by decide) c_eq (fun c => ?_) (fun c => ?_)
  · have h := h1 c
    exact h
  · have h := h2 c
    refine r_g (pc' := 54) (ls' := [some (.ref r0), l1, some (.ref r2), some (.int x3), some (.int x4)]) (st' := [.ref r2]) dX1_markAlike_53 (fun _ => rfl) ?_
    refine r_ic (v := 1) dX1_markAlike_54 (by decide) ?_
    obtain ⟨hK, h⟩ := h
    refine r_putI dX1_markAlike_55 rfl (by decide) (Or.inl rfl) rfl (Or.inl rfl) hK ?_
    generalize eτ1 : stI σ r2 6 1 = τ1
    replace h := h _ eτ1.symm
    refine r_inc (v := 1) (ls' := [some (.ref r0), l1, some (.ref r2), some (.int (x3 + 1)), some (.int x4)]) dX1_markAlike_58 rfl (Nat.le_of_ble_eq_true rfl) (by decide) rfl ?_
    refine r_g (pc' := 62) (ls' := [some (.ref r0), l1, some (.ref r2), some (.int (x3 + 1)), some (.int x4)]) (st' := [.ref r0]) dX1_markAlike_61 (fun _ => rfl) ?_
    obtain ⟨hK, b2, hP, h⟩ := h
    refine r_getP dX1_markAlike_62 rfl (by decide) rfl hK hP ?_
    refine r_g (pc' := 67) (ls' := [some (.ref r0), l1, some (.ref r2), some (.int (x3 + 1)), some (.int x4)]) (st' := [.int x4, .ref b2]) dX1_markAlike_65 (fun _ => rfl) ?_
    obtain ⟨hK, h⟩ := h
    exact r_call (th := false) dX1_markAlike_67 (fun _ => ex_calV rfl (by decide)) rfl (Nat.le_of_ble_eq_true rfl) (Nat.le_of_ble_eq_true rfl) (Nat.le_of_ble_eq_true rfl) (rcv0 rfl rfl (by decide) hK) rfl rfl rfl (fun q => nomatch q) h
theorem b14_70 {g : Nat → Nat} {C S : Nat} {σ : PS} {Q : Rs → PS → Prop} {r0 : Nat} {l1 : Option Value} {r2 : Nat} {x3 : Int32} {x4 : Int32} {w0 : Nat}
    (h : zK σ w0 = 6 ∧ zK σ w0 = 6 ∧ (∀ τ1, τ1 = stI σ w0 6 x3 → WP g C S 14 77 [some (.ref r0), l1, some (.ref r2), some (.int x3), some (.int x4)] [] τ1 Q)) :
    WP g C S 14 70 [some (.ref r0), l1, some (.ref r2), some (.int x3), some (.int x4)] [.ref w0] σ Q := by
  obtain ⟨hK, h⟩ := h
  refine r_chk dX1_markAlike_70 rfl (Or.inl ⟨by decide, hK⟩) ?_
  refine r_g (pc' := 74) (ls' := [some (.ref r0), l1, some (.ref r2), some (.int x3), some (.int x4)]) (st' := [.int x3, .ref w0]) dX1_markAlike_73 (fun _ => rfl) ?_
  obtain ⟨hK, h⟩ := h
  refine r_putI dX1_markAlike_74 rfl (by decide) (Or.inl rfl) rfl (Or.inl rfl) hK ?_
  generalize eτ1 : stI σ w0 6 x3 = τ1
  replace h := h _ eτ1.symm
  exact h
theorem b14_77 {g : Nat → Nat} {C S : Nat} {σ : PS} {Q : Rs → PS → Prop} {r0 : Nat} {l1 : Option Value} {r2 : Nat} {x3 : Int32} {x4 : Int32}
    (h : WP g C S 14 19 [some (.ref r0), l1, some (.ref r2), some (.int x3), some (.int (x4 + 1))] [] σ Q) :
    WP g C S 14 77 [some (.ref r0), l1, some (.ref r2), some (.int x3), some (.int x4)] [] σ Q := by
  refine r_inc (v := 1) (ls' := [some (.ref r0), l1, some (.ref r2), some (.int x3), some (.int (x4 + 1))]) dX1_markAlike_77 rfl (Nat.le_of_ble_eq_true rfl) (by decide) rfl ?_
  refine r_goto (t := 19) dX1_markAlike_80 (by decide) ?_
  exact h
theorem b15_0 {g : Nat → Nat} {C S : Nat} {σ : PS} {Q : Rs → PS → Prop} {r0 : Nat} {l1 : Option Value} {l2 : Option Value} {l3 : Option Value} {l4 : Option Value}
    (h : zK σ r0 = 3 ∧ (∀ τ1, τ1 = stI σ r0 5 0 → WP g C S 15 7 [some (.ref r0), some (.int 0), l2, l3, l4] [] τ1 Q)) :
    WP g C S 15 0 [some (.ref r0), l1, l2, l3, l4] [] σ Q := by
  refine r_g (pc' := 1) (ls' := [some (.ref r0), l1, l2, l3, l4]) (st' := [.ref r0]) dX1_findMissing_0 (fun _ => rfl) ?_
  refine r_ic (v := 0) dX1_findMissing_1 (by decide) ?_
  obtain ⟨hK, h⟩ := h
  refine r_putI dX1_findMissing_2 rfl (by decide) (Or.inl rfl) rfl (Or.inl rfl) hK ?_
  generalize eτ1 : stI σ r0 5 0 = τ1
  replace h := h _ eτ1.symm
  refine r_ic (v := 0) dX1_findMissing_5 (by decide) ?_
  refine r_g (pc' := 7) (ls' := [some (.ref r0), some (.int 0), l2, l3, l4]) (st' := []) dX1_findMissing_6 (fun _ => rfl) ?_
  exact h
theorem b15_7 {g : Nat → Nat} {C S : Nat} {σ : PS} {Q : Rs → PS → Prop} {r0 : Nat} {x1 : Int32} {l2 : Option Value} {l3 : Option Value} {l4 : Option Value}
    (h : zK σ r0 = 3 ∧ ((zI σ r0 1 : Int32) ≤ x1 → Q (Sum.inl none) σ) ∧ (¬ ((zI σ r0 1 : Int32) ≤ x1) → zK σ r0 = 3 ∧ ∃ b1, zP σ r0 0 = some b1 ∧ (zK σ b1 = 1 ∧ WP g C S 163 0 [some (.ref b1), some (.int x1)] [] σ (KK g C S 15 23 [some (.ref r0), some (.int x1), l2, l3, l4] [] Q false)))) :
    WP g C S 15 7 [some (.ref r0), some (.int x1), l2, l3, l4] [] σ Q := by
  refine r_g (pc' := 8) (ls' := [some (.ref r0), some (.int x1), l2, l3, l4]) (st' := [.int x1]) dX1_findMissing_7 (fun _ => rfl) ?_
  refine r_g (pc' := 9) (ls' := [some (.ref r0), some (.int x1), l2, l3, l4]) (st' := [.ref r0, .int x1]) dX1_findMissing_8 (fun _ => rfl) ?_
  obtain ⟨hK, h⟩ := h
  refine r_getI dX1_findMissing_9 rfl (by decide) rfl hK ?_
  obtain ⟨h1, h2⟩ := h
  refine r_icmp (t := 120) dX1_findMissing_12 (by decide) c_ge (fun c => ?_) (fun c => ?_)
  · have h := h1 c
    exact r_vret dX1_findMissing_120 rfl h
  · have h := h2 c
    refine r_g (pc' := 16) (ls' := [some (.ref r0), some (.int x1), l2, l3, l4]) (st' := [.ref r0]) dX1_findMissing_15 (fun _ => rfl) ?_
    obtain ⟨hK, b1, hP, h⟩ := h
    refine r_getP dX1_findMissing_16 rfl (by decide) rfl hK hP ?_
    refine r_g (pc' := 20) (ls' := [some (.ref r0), some (.int x1), l2, l3, l4]) (st' := [.int x1, .ref b1]) dX1_findMissing_19 (fun _ => rfl) ?_
    obtain ⟨hK, h⟩ := h
    exact r_call (th := false) dX1_findMissing_20 (fun _ => ex_calV rfl (by decide)) rfl (Nat.le_of_ble_eq_true rfl) (Nat.le_of_ble_eq_true rfl) (Nat.le_of_ble_eq_true rfl) (rcv0 rfl rfl (by decide) hK) rfl rfl rfl (fun q => nomatch q) h
theorem b15_23 {g : Nat → Nat} {C S : Nat} {σ : PS} {Q : Rs → PS → Prop} {r0 : Nat} {x1 : Int32} {l2 : Option Value} {l3 : Option Value} {l4 : Option Value} {w0 : Nat}
    (h : zK σ w0 = 6 ∧ zK σ w0 = 6 ∧ ∃ b1, zP σ w0 0 = some b1 ∧ (WP g C S 15 32 [some (.ref r0), some (.int x1), some (.ref b1), some (.int 0), l4] [] σ Q)) :
    WP g C S 15 23 [some (.ref r0), some (.int x1), l2, l3, l4] [.ref w0] σ Q := by
  obtain ⟨hK, h⟩ := h
  refine r_chk dX1_findMissing_23 rfl (Or.inl ⟨by decide, hK⟩) ?_
  obtain ⟨hK, b1, hP, h⟩ := h
  refine r_getP dX1_findMissing_26 rfl (by decide) rfl hK hP ?_
  refine r_g (pc' := 30) (ls' := [some (.ref r0), some (.int x1), some (.ref b1), l3, l4]) (st' := []) dX1_findMissing_29 (fun _ => rfl) ?_
  refine r_ic (v := 0) dX1_findMissing_30 (by decide) ?_
  refine r_g (pc' := 32) (ls' := [some (.ref r0), some (.int x1), some (.ref b1), some (.int 0), l4]) (st' := []) dX1_findMissing_31 (fun _ => rfl) ?_
  exact h
theorem b15_32 {g : Nat → Nat} {C S : Nat} {σ : PS} {Q : Rs → PS → Prop} {r0 : Nat} {x1 : Int32} {r2 : Nat} {x3 : Int32} {l4 : Option Value}
    (h : ((4 : Int32) ≤ x3 → WP g C S 15 7 [some (.ref r0), some (.int (x1 + 1)), some (.ref r2), some (.int x3), l4] [] σ Q) ∧ (¬ ((4 : Int32) ≤ x3) → zK σ r2 = 2 ∧ ∃ n1 : Nat, ((zI σ r2 1) * 4) + x3 = nI n1 ∧ n1 < 2147483648 ∧ (zK σ (g 0) = 101 ∨ zK σ (g 0) = 1002) ∧ n1 < zL σ (g 0) ∧ (((zI σ (g 0) n1 : Int32) < 0 → WP g C S 15 108 [some (.ref r0), some (.int x1), some (.ref r2), some (.int x3), some (.int (zI σ (g 0) n1))] [] σ Q) ∧ (¬ ((zI σ (g 0) n1 : Int32) < 0) → zK σ r2 = 2 ∧ WP g C S 2 0 [some (.ref r2), some (.int (zI σ (g 0) n1))] [] σ (KK g C S 15 62 [some (.ref r0), some (.int x1), some (.ref r2), some (.int x3), some (.int (zI σ (g 0) n1))] [] Q false))))) :
    WP g C S 15 32 [some (.ref r0), some (.int x1), some (.ref r2), some (.int x3), l4] [] σ Q := by
  refine r_g (pc' := 33) (ls' := [some (.ref r0), some (.int x1), some (.ref r2), some (.int x3), l4]) (st' := [.int x3]) dX1_findMissing_32 (fun _ => rfl) ?_
  refine r_ic (v := 4) dX1_findMissing_33 (by decide) ?_
  obtain ⟨h1, h2⟩ := h
  refine r_icmp (t := 114) dX1_findMissing_34 (by decide) c_ge (fun c => ?_) (fun c => ?_)
  · have h := h1 c
    refine r_inc (v := 1) (ls' := [some (.ref r0), some (.int (x1 + 1)), some (.ref r2), some (.int x3), l4]) dX1_findMissing_114 rfl (Nat.le_of_ble_eq_true rfl) (by decide) rfl ?_
    refine r_goto (t := 7) dX1_findMissing_117 (by decide) ?_
    exact h
  · have h := h2 c
    refine r_gets dX1_findMissing_37 rfl rfl ?_
    refine r_g (pc' := 41) (ls' := [some (.ref r0), some (.int x1), some (.ref r2), some (.int x3), l4]) (st' := [.ref r2, .ref (g 0)]) dX1_findMissing_40 (fun _ => rfl) ?_
    obtain ⟨hK, h⟩ := h
    refine r_getI dX1_findMissing_41 rfl (by decide) rfl hK ?_
    refine r_ic (v := 4) dX1_findMissing_44 (by decide) ?_
    refine r_g (pc' := 46) (ls' := [some (.ref r0), some (.int x1), some (.ref r2), some (.int x3), l4]) (st' := [.int ((zI σ r2 1) * 4), .ref (g 0)]) dX1_findMissing_45 (fun _ => rfl) ?_
    refine r_g (pc' := 47) (ls' := [some (.ref r0), some (.int x1), some (.ref r2), some (.int x3), l4]) (st' := [.int x3, .int ((zI σ r2 1) * 4), .ref (g 0)]) dX1_findMissing_46 (fun _ => rfl) ?_
    refine r_g (pc' := 48) (ls' := [some (.ref r0), some (.int x1), some (.ref r2), some (.int x3), l4]) (st' := [.int (((zI σ r2 1) * 4) + x3), .ref (g 0)]) dX1_findMissing_47 (fun _ => rfl) ?_
    obtain ⟨n1, hj, hn, hK, hL, h⟩ := h
    refine r_iald dX1_findMissing_48 hj hn hK hL ?_
    refine r_g (pc' := 51) (ls' := [some (.ref r0), some (.int x1), some (.ref r2), some (.int x3), some (.int (zI σ (g 0) n1))]) (st' := []) dX1_findMissing_49 (fun _ => rfl) ?_
    refine r_g (pc' := 53) (ls' := [some (.ref r0), some (.int x1), some (.ref r2), some (.int x3), some (.int (zI σ (g 0) n1))]) (st' := [.int (zI σ (g 0) n1)]) dX1_findMissing_51 (fun _ => rfl) ?_
    obtain ⟨h1, h2⟩ := h
    refine r_if (t := 108) dX1_findMissing_53 (by decide) c_lt (fun c => ?_) (fun c => ?_)
    · have h := h1 c
      exact h
    · have h := h2 c
      refine r_g (pc' := 57) (ls' := [some (.ref r0), some (.int x1), some (.ref r2), some (.int x3), some (.int (zI σ (g 0) n1))]) (st' := [.ref r2]) dX1_findMissing_56 (fun _ => rfl) ?_
      refine r_g (pc' := 59) (ls' := [some (.ref r0), some (.int x1), some (.ref r2), some (.int x3), some (.int (zI σ (g 0) n1))]) (st' := [.int (zI σ (g 0) n1), .ref r2]) dX1_findMissing_57 (fun _ => rfl) ?_
      obtain ⟨hK, h⟩ := h
      exact r_call (th := false) dX1_findMissing_59 (fun _ => ex_calV rfl (by decide)) rfl (Nat.le_of_ble_eq_true rfl) (Nat.le_of_ble_eq_true rfl) (Nat.le_of_ble_eq_true rfl) (rcv0 rfl rfl (by decide) hK) rfl rfl rfl (fun q => nomatch q) h
theorem b15_62 {g : Nat → Nat} {C S : Nat} {σ : PS} {Q : Rs → PS → Prop} {r0 : Nat} {x1 : Int32} {r2 : Nat} {x3 : Int32} {x4 : Int32} {u0 : Int32}
    (h : (¬ (u0 : Int32) = 0 → WP g C S 15 108 [some (.ref r0), some (.int x1), some (.ref r2), some (.int x3), some (.int x4)] [] σ Q) ∧ (¬ (¬ (u0 : Int32) = 0) → zK σ r0 = 3 ∧ ((96 : Int32) ≤ (zI σ r0 5) → WP g C S 15 108 [some (.ref r0), some (.int x1), some (.ref r2), some (.int x3), some (.int x4)] [] σ Q) ∧ (¬ ((96 : Int32) ≤ (zI σ r0 5)) → zK σ r0 = 3 ∧ ∃ b1, zP σ r0 3 = some b1 ∧ (zK σ r0 = 3 ∧ zK σ r2 = 2 ∧ ∃ n2 : Nat, zI σ r0 5 = nI n2 ∧ n2 < 2147483648 ∧ zK σ b1 = 101 ∧ n2 < zL σ b1 ∧ (∀ τ3, τ3 = stI σ b1 n2 (zI σ r2 0) → zK τ3 r0 = 3 ∧ ∃ b4, zP τ3 r0 4 = some b4 ∧ (zK τ3 r0 = 3 ∧ ∃ n5 : Nat, zI τ3 r0 5 = nI n5 ∧ n5 < 2147483648 ∧ zK τ3 b4 = 101 ∧ n5 < zL τ3 b4 ∧ (∀ τ6, τ6 = stI τ3 b4 n5 x4 → zK τ6 r0 = 3 ∧ zK τ6 r0 = 3 ∧ (∀ τ7, τ7 = stI τ6 r0 5 ((zI τ6 r0 5) + 1) → WP g C S 15 108 [some (.ref r0), some (.int x1), some (.ref r2), some (.int x3), some (.int x4)] [] τ7 Q)))))))) :
    WP g C S 15 62 [some (.ref r0), some (.int x1), some (.ref r2), some (.int x3), some (.int x4)] [.int u0] σ Q := by
  obtain ⟨h1, h2⟩ := h
  refine r_if (t := 108) dX1_findMissing_62 (by decide) c_ne (fun c => ?_) (fun c => ?_)
  · have h := h1 c
    exact h
  · have h := h2 c
    refine r_g (pc' := 66) (ls' := [some (.ref r0), some (.int x1), some (.ref r2), some (.int x3), some (.int x4)]) (st' := [.ref r0]) dX1_findMissing_65 (fun _ => rfl) ?_
    obtain ⟨hK, h⟩ := h
    refine r_getI dX1_findMissing_66 rfl (by decide) rfl hK ?_
    refine r_bi (v := 96) dX1_findMissing_69 (by decide) ?_
    obtain ⟨h1, h2⟩ := h
    refine r_icmp (t := 108) dX1_findMissing_71 (by decide) c_ge (fun c => ?_) (fun c => ?_)
    · have h := h1 c
      exact h
    · have h := h2 c
      refine r_g (pc' := 75) (ls' := [some (.ref r0), some (.int x1), some (.ref r2), some (.int x3), some (.int x4)]) (st' := [.ref r0]) dX1_findMissing_74 (fun _ => rfl) ?_
      obtain ⟨hK, b1, hP, h⟩ := h
      refine r_getP dX1_findMissing_75 rfl (by decide) rfl hK hP ?_
      refine r_g (pc' := 79) (ls' := [some (.ref r0), some (.int x1), some (.ref r2), some (.int x3), some (.int x4)]) (st' := [.ref r0, .ref b1]) dX1_findMissing_78 (fun _ => rfl) ?_
      obtain ⟨hK, h⟩ := h
      refine r_getI dX1_findMissing_79 rfl (by decide) rfl hK ?_
      refine r_g (pc' := 83) (ls' := [some (.ref r0), some (.int x1), some (.ref r2), some (.int x3), some (.int x4)]) (st' := [.ref r2, .int (zI σ r0 5), .ref b1]) dX1_findMissing_82 (fun _ => rfl) ?_
      obtain ⟨hK, h⟩ := h
      refine r_getI dX1_findMissing_83 rfl (by decide) rfl hK ?_
      obtain ⟨n2, hj, hn, hK, hL, h⟩ := h
      refine r_iast dX1_findMissing_86 hj hn hK hL ?_
      generalize eτ3 : stI σ b1 n2 (zI σ r2 0) = τ3
      replace h := h _ eτ3.symm
      refine r_g (pc' := 88) (ls' := [some (.ref r0), some (.int x1), some (.ref r2), some (.int x3), some (.int x4)]) (st' := [.ref r0]) dX1_findMissing_87 (fun _ => rfl) ?_
      obtain ⟨hK, b4, hP, h⟩ := h
      refine r_getP dX1_findMissing_88 rfl (by decide) rfl hK hP ?_
      refine r_g (pc' := 92) (ls' := [some (.ref r0), some (.int x1), some (.ref r2), some (.int x3), some (.int x4)]) (st' := [.ref r0, .ref b4]) dX1_findMissing_91 (fun _ => rfl) ?_
      obtain ⟨hK, h⟩ := h
      refine r_getI dX1_findMissing_92 rfl (by decide) rfl hK ?_
      refine r_g (pc' := 97) (ls' := [some (.ref r0), some (.int x1), some (.ref r2), some (.int x3), some (.int x4)]) (st' := [.int x4, .int (zI τ3 r0 5), .ref b4]) dX1_findMissing_95 (fun _ => rfl) ?_
      obtain ⟨n5, hj, hn, hK, hL, h⟩ := h
      refine r_iast dX1_findMissing_97 hj hn hK hL ?_
      generalize eτ6 : stI τ3 b4 n5 x4 = τ6
      replace h := h _ eτ6.symm
      refine r_g (pc' := 99) (ls' := [some (.ref r0), some (.int x1), some (.ref r2), some (.int x3), some (.int x4)]) (st' := [.ref r0]) dX1_findMissing_98 (fun _ => rfl) ?_
      refine r_g (pc' := 100) (ls' := [some (.ref r0), some (.int x1), some (.ref r2), some (.int x3), some (.int x4)]) (st' := [.ref r0, .ref r0]) dX1_findMissing_99 (fun _ => rfl) ?_
      obtain ⟨hK, h⟩ := h
      refine r_getI dX1_findMissing_100 rfl (by decide) rfl hK ?_
      refine r_ic (v := 1) dX1_findMissing_103 (by decide) ?_
      refine r_g (pc' := 105) (ls' := [some (.ref r0), some (.int x1), some (.ref r2), some (.int x3), some (.int x4)]) (st' := [.int ((zI τ6 r0 5) + 1), .ref r0]) dX1_findMissing_104 (fun _ => rfl) ?_
      obtain ⟨hK, h⟩ := h
      refine r_putI dX1_findMissing_105 rfl (by decide) (Or.inl rfl) rfl (Or.inl rfl) hK ?_
      generalize eτ7 : stI τ6 r0 5 ((zI τ6 r0 5) + 1) = τ7
      replace h := h _ eτ7.symm
      exact h
theorem b15_108 {g : Nat → Nat} {C S : Nat} {σ : PS} {Q : Rs → PS → Prop} {r0 : Nat} {x1 : Int32} {r2 : Nat} {x3 : Int32} {l4 : Option Value}
    (h : WP g C S 15 32 [some (.ref r0), some (.int x1), some (.ref r2), some (.int (x3 + 1)), l4] [] σ Q) :
    WP g C S 15 108 [some (.ref r0), some (.int x1), some (.ref r2), some (.int x3), l4] [] σ Q := by
  refine r_inc (v := 1) (ls' := [some (.ref r0), some (.int x1), some (.ref r2), some (.int (x3 + 1)), l4]) dX1_findMissing_108 rfl (Nat.le_of_ble_eq_true rfl) (by decide) rfl ?_
  refine r_goto (t := 32) dX1_findMissing_111 (by decide) ?_
  exact h
