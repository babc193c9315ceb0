theorem b66_0 {g : Nat → Nat} {C S : Nat} {σ : PS} {Q : Rs → PS → Prop} {r0 : Nat}
    (h : zN σ + 1 ≤ C ∧ zS σ + 3 ≤ S ∧ (∀ τ1, τ1 = alO σ 1 3 → WP g C S 158 0 [some (.ref (zN σ))] [] τ1 (KK g C S 66 12 [some (.ref r0)] [.ref (zN σ), .ref r0] Q false))) :
    WP g C S 66 0 [some (.ref r0)] [] σ Q := by
  refine r_g (pc' := 1) (ls' := [some (.ref r0)]) (st' := [.ref r0]) dX6_init_0 (fun _ => rfl) ?_
  refine r_oi dX6_init_1 rfl ⟨Nat.le_of_ble_eq_true rfl, Nat.le_of_ble_eq_true rfl, Nat.le_of_ble_eq_true rfl⟩ ?_
  refine r_g (pc' := 5) (ls' := [some (.ref r0)]) (st' := [.ref r0]) dX6_init_4 (fun _ => rfl) ?_
  obtain ⟨hC, hS, h⟩ := h
  refine r_new (N := 3) dX6_init_5 rfl (by decide) rfl hC hS ?_
  generalize eτ1 : alO σ (0 + 1) 3 = τ1
  replace h := h _ eτ1.symm
  refine r_g (pc' := 9) (ls' := [some (.ref r0)]) (st' := [.ref (zN σ), .ref (zN σ), .ref r0]) dX6_init_8 (fun _ => rfl) ?_
  exact r_call (th := false) dX6_init_9 (fun _ => ex_calI rfl (by decide)) rfl (Nat.le_of_ble_eq_true rfl) (Nat.le_of_ble_eq_true rfl) (Nat.le_of_ble_eq_true rfl) rfl rfl rfl rfl (fun q => nomatch q) h
theorem b66_12 {g : Nat → Nat} {C S : Nat} {σ : PS} {Q : Rs → PS → Prop} {r0 : Nat} {w0 : Nat} {w1 : Nat}
    (h : zK σ w1 = 8 ∧ (∀ τ1, τ1 = stP σ w1 0 (some w0) → zN τ1 + 1 ≤ C ∧ zS τ1 + 3 ≤ S ∧ (∀ τ2, τ2 = alO τ1 1 3 → WP g C S 158 0 [some (.ref (zN τ1))] [] τ2 (KK g C S 66 23 [some (.ref r0)] [.ref (zN τ1), .ref r0] Q false)))) :
    WP g C S 66 12 [some (.ref r0)] [.ref w0, .ref w1] σ Q := by
  obtain ⟨hK, h⟩ := h
  refine r_putP dX6_init_12 rfl (by decide) (Or.inr ⟨rfl, rfl⟩) rfl hK ?_
  generalize eτ1 : stP σ w1 0 (some w0) = τ1
  replace h := h _ eτ1.symm
  refine r_g (pc' := 16) (ls' := [some (.ref r0)]) (st' := [.ref r0]) dX6_init_15 (fun _ => rfl) ?_
  obtain ⟨hC, hS, h⟩ := h
  refine r_new (N := 3) dX6_init_16 rfl (by decide) rfl hC hS ?_
  generalize eτ2 : alO τ1 (0 + 1) 3 = τ2
  replace h := h _ eτ2.symm
  refine r_g (pc' := 20) (ls' := [some (.ref r0)]) (st' := [.ref (zN τ1), .ref (zN τ1), .ref r0]) dX6_init_19 (fun _ => rfl) ?_
  exact r_call (th := false) dX6_init_20 (fun _ => ex_calI rfl (by decide)) rfl (Nat.le_of_ble_eq_true rfl) (Nat.le_of_ble_eq_true rfl) (Nat.le_of_ble_eq_true rfl) rfl rfl rfl rfl (fun q => nomatch q) h
theorem b66_23 {g : Nat → Nat} {C S : Nat} {σ : PS} {Q : Rs → PS → Prop} {r0 : Nat} {w0 : Nat} {w1 : Nat}
    (h : zK σ w1 = 8 ∧ (∀ τ1, τ1 = stP σ w1 1 (some w0) → zK τ1 r0 = 8 ∧ (∀ τ2, τ2 = stI τ1 r0 2 0 → zK τ2 r0 = 8 ∧ (∀ τ3, τ3 = stI τ2 r0 3 0 → zN τ3 + 1 ≤ C ∧ zS τ3 + 6 ≤ S ∧ (∀ τ4, τ4 = alO τ3 3 6 → WP g C S 5 0 [some (.ref (zN τ3))] [] τ4 (KK g C S 66 44 [some (.ref r0)] [.ref (zN τ3), .ref r0] Q false)))))) :
    WP g C S 66 23 [some (.ref r0)] [.ref w0, .ref w1] σ Q := by
  obtain ⟨hK, h⟩ := h
  refine r_putP dX6_init_23 rfl (by decide) (Or.inr ⟨rfl, rfl⟩) rfl hK ?_
  generalize eτ1 : stP σ w1 1 (some w0) = τ1
  replace h := h _ eτ1.symm
  refine r_g (pc' := 27) (ls' := [some (.ref r0)]) (st' := [.ref r0]) dX6_init_26 (fun _ => rfl) ?_
  refine r_ic (v := 0) dX6_init_27 (by decide) ?_
  obtain ⟨hK, h⟩ := h
  refine r_putI dX6_init_28 rfl (by decide) (Or.inl rfl) rfl (Or.inl rfl) hK ?_
  generalize eτ2 : stI τ1 r0 2 0 = τ2
  replace h := h _ eτ2.symm
  refine r_g (pc' := 32) (ls' := [some (.ref r0)]) (st' := [.ref r0]) dX6_init_31 (fun _ => rfl) ?_
  refine r_ic (v := 0) dX6_init_32 (by decide) ?_
  obtain ⟨hK, h⟩ := h
  refine r_putI dX6_init_33 rfl (by decide) (Or.inl rfl) rfl (Or.inl rfl) hK ?_
  generalize eτ3 : stI τ2 r0 3 0 = τ3
  replace h := h _ eτ3.symm
  refine r_g (pc' := 37) (ls' := [some (.ref r0)]) (st' := [.ref r0]) dX6_init_36 (fun _ => rfl) ?_
  obtain ⟨hC, hS, h⟩ := h
  refine r_new (N := 6) dX6_init_37 rfl (by decide) rfl hC hS ?_
  generalize eτ4 : alO τ3 (2 + 1) 6 = τ4
  replace h := h _ eτ4.symm
  refine r_g (pc' := 41) (ls' := [some (.ref r0)]) (st' := [.ref (zN τ3), .ref (zN τ3), .ref r0]) dX6_init_40 (fun _ => rfl) ?_
  exact r_call (th := false) dX6_init_41 (fun _ => ex_calI rfl (by decide)) rfl (Nat.le_of_ble_eq_true rfl) (Nat.le_of_ble_eq_true rfl) (Nat.le_of_ble_eq_true rfl) rfl rfl rfl rfl (fun q => nomatch q) h
theorem b66_44 {g : Nat → Nat} {C S : Nat} {σ : PS} {Q : Rs → PS → Prop} {r0 : Nat} {w0 : Nat} {w1 : Nat}
    (h : zK σ w1 = 8 ∧ (∀ τ1, τ1 = stP σ w1 4 (some w0) → zN τ1 + 1 ≤ C ∧ zS τ1 + 2 ≤ S ∧ (∀ τ2, τ2 = alO τ1 7 2 → WP g C S 52 0 [some (.ref (zN τ1))] [] τ2 (KK g C S 66 55 [some (.ref r0)] [.ref (zN τ1), .ref r0] Q false)))) :
    WP g C S 66 44 [some (.ref r0)] [.ref w0, .ref w1] σ Q := by
  obtain ⟨hK, h⟩ := h
  refine r_putP dX6_init_44 rfl (by decide) (Or.inr ⟨rfl, rfl⟩) rfl hK ?_
  generalize eτ1 : stP σ w1 4 (some w0) = τ1
  replace h := h _ eτ1.symm
  refine r_g (pc' := 48) (ls' := [some (.ref r0)]) (st' := [.ref r0]) dX6_init_47 (fun _ => rfl) ?_
  obtain ⟨hC, hS, h⟩ := h
  refine r_new (N := 2) dX6_init_48 rfl (by decide) rfl hC hS ?_
  generalize eτ2 : alO τ1 (6 + 1) 2 = τ2
  replace h := h _ eτ2.symm
  refine r_g (pc' := 52) (ls' := [some (.ref r0)]) (st' := [.ref (zN τ1), .ref (zN τ1), .ref r0]) dX6_init_51 (fun _ => rfl) ?_
  exact r_call (th := false) dX6_init_52 (fun _ => ex_calI rfl (by decide)) rfl (Nat.le_of_ble_eq_true rfl) (Nat.le_of_ble_eq_true rfl) (Nat.le_of_ble_eq_true rfl) rfl rfl rfl rfl (fun q => nomatch q) h
theorem b66_55 {g : Nat → Nat} {C S : Nat} {σ : PS} {Q : Rs → PS → Prop} {r0 : Nat} {w0 : Nat} {w1 : Nat}
    (h : zK σ w1 = 8 ∧ (∀ τ1, τ1 = stP σ w1 5 (some w0) → zN τ1 + 1 ≤ C ∧ zS τ1 + 7 ≤ S ∧ (∀ τ2, τ2 = alO τ1 5 7 → WP g C S 18 0 [some (.ref (zN τ1))] [] τ2 (KK g C S 66 66 [some (.ref r0)] [.ref (zN τ1), .ref r0] Q false)))) :
    WP g C S 66 55 [some (.ref r0)] [.ref w0, .ref w1] σ Q := by
  obtain ⟨hK, h⟩ := h
  refine r_putP dX6_init_55 rfl (by decide) (Or.inr ⟨rfl, rfl⟩) rfl hK ?_
  generalize eτ1 : stP σ w1 5 (some w0) = τ1
  replace h := h _ eτ1.symm
  refine r_g (pc' := 59) (ls' := [some (.ref r0)]) (st' := [.ref r0]) dX6_init_58 (fun _ => rfl) ?_
  obtain ⟨hC, hS, h⟩ := h
  refine r_new (N := 7) dX6_init_59 rfl (by decide) rfl hC hS ?_
  generalize eτ2 : alO τ1 (4 + 1) 7 = τ2
  replace h := h _ eτ2.symm
  refine r_g (pc' := 63) (ls' := [some (.ref r0)]) (st' := [.ref (zN τ1), .ref (zN τ1), .ref r0]) dX6_init_62 (fun _ => rfl) ?_
  exact r_call (th := false) dX6_init_63 (fun _ => ex_calI rfl (by decide)) rfl (Nat.le_of_ble_eq_true rfl) (Nat.le_of_ble_eq_true rfl) (Nat.le_of_ble_eq_true rfl) rfl rfl rfl rfl (fun q => nomatch q) h
theorem b66_66 {g : Nat → Nat} {C S : Nat} {σ : PS} {Q : Rs → PS → Prop} {r0 : Nat} {w0 : Nat} {w1 : Nat}
    (h : zK σ w1 = 8 ∧ (∀ τ1, τ1 = stP σ w1 6 (some w0) → zN τ1 + 1 ≤ C ∧ zS τ1 + 2 ≤ S ∧ (∀ τ2, τ2 = alO τ1 7 2 → WP g C S 52 0 [some (.ref (zN τ1))] [] τ2 (KK g C S 66 77 [some (.ref r0)] [.ref (zN τ1), .ref r0] Q false)))) :
    WP g C S 66 66 [some (.ref r0)] [.ref w0, .ref w1] σ Q := by
  obtain ⟨hK, h⟩ := h
  refine r_putP dX6_init_66 rfl (by decide) (Or.inr ⟨rfl, rfl⟩) rfl hK ?_
  generalize eτ1 : stP σ w1 6 (some w0) = τ1
  replace h := h _ eτ1.symm
  refine r_g (pc' := 70) (ls' := [some (.ref r0)]) (st' := [.ref r0]) dX6_init_69 (fun _ => rfl) ?_
  obtain ⟨hC, hS, h⟩ := h
  refine r_new (N := 2) dX6_init_70 rfl (by decide) rfl hC hS ?_
  generalize eτ2 : alO τ1 (6 + 1) 2 = τ2
  replace h := h _ eτ2.symm
  refine r_g (pc' := 74) (ls' := [some (.ref r0)]) (st' := [.ref (zN τ1), .ref (zN τ1), .ref r0]) dX6_init_73 (fun _ => rfl) ?_
  exact r_call (th := false) dX6_init_74 (fun _ => ex_calI rfl (by decide)) rfl (Nat.le_of_ble_eq_true rfl) (Nat.le_of_ble_eq_true rfl) (Nat.le_of_ble_eq_true rfl) rfl rfl rfl rfl (fun q => nomatch q) h
theorem b66_77 {g : Nat → Nat} {C S : Nat} {σ : PS} {Q : Rs → PS → Prop} {l0 : Option Value} {w0 : Nat} {w1 : Nat}
    (h : zK σ w1 = 8 ∧ (∀ τ1, τ1 = stP σ w1 7 (some w0) → Q (Sum.inl none) τ1)) :
    WP g C S 66 77 [l0] [.ref w0, .ref w1] σ Q := by
  obtain ⟨hK, h⟩ := h
  refine r_putP dX6_init_77 rfl (by decide) (Or.inr ⟨rfl, rfl⟩) rfl hK ?_
  generalize eτ1 : stP σ w1 7 (some w0) = τ1
  replace h := h _ eτ1.symm
  exact r_vret dX6_init_80 rfl h
theorem b67_0 {g : Nat → Nat} {C S : Nat} {σ : PS} {Q : Rs → PS → Prop} {r0 : Nat} {x1 : Int32} {l2 : Option Value}
    (h : zK σ r0 = 8 ∧ ∃ b1, zP σ r0 0 = some b1 ∧ (zK σ b1 = 1 ∧ WP g C S 161 0 [some (.ref b1)] [] σ (KK g C S 67 7 [some (.ref r0), some (.int x1), l2] [] Q false))) :
    WP g C S 67 0 [some (.ref r0), some (.int x1), l2] [] σ Q := by
  refine r_g (pc' := 1) (ls' := [some (.ref r0), some (.int x1), l2]) (st' := [.ref r0]) dX6_entry_0 (fun _ => rfl) ?_
  obtain ⟨hK, b1, hP, h⟩ := h
  refine r_getP dX6_entry_1 rfl (by decide) rfl hK hP ?_
  obtain ⟨hK, h⟩ := h
  exact r_call (th := false) dX6_entry_4 (fun _ => ex_calV rfl (by decide)) rfl (Nat.le_of_ble_eq_true rfl) (Nat.le_of_ble_eq_true rfl) (Nat.le_of_ble_eq_true rfl) (rcv0 rfl rfl (by decide) hK) rfl rfl rfl (fun q => nomatch q) h
theorem b67_7 {g : Nat → Nat} {C S : Nat} {σ : PS} {Q : Rs → PS → Prop} {r0 : Nat} {x1 : Int32} {l2 : Option Value} {u0 : Int32}
    (h : ((u0 : Int32) < 24 → zK σ r0 = 8 ∧ ∃ b1, zP σ r0 0 = some b1 ∧ (zN σ + 1 ≤ C ∧ zS σ + 5 ≤ S ∧ (∀ τ2, τ2 = alO σ 2 5 → WP g C S 0 0 [some (.ref (zN σ)), some (.int u0), some (.int x1), none] [] τ2 (KK g C S 67 37 [some (.ref r0), some (.int x1), some (.int u0)] [.ref (zN σ), .ref b1] Q false)))) ∧ (¬ ((u0 : Int32) < 24) → (zN σ + 1 ≤ C ∧ zS σ + 6 ≤ S) ∧ Q (Sum.inr 3) σ)) :
    WP g C S 67 7 [some (.ref r0), some (.int x1), l2] [.int u0] σ Q := by
  refine r_g (pc' := 8) (ls' := [some (.ref r0), some (.int x1), some (.int u0)]) (st' := []) dX6_entry_7 (fun _ => rfl) ?_
  refine r_g (pc' := 9) (ls' := [some (.ref r0), some (.int x1), some (.int u0)]) (st' := [.int u0]) dX6_entry_8 (fun _ => rfl) ?_
  refine r_bi (v := 24) dX6_entry_9 (by decide) ?_
  obtain ⟨h1, h2⟩ := h
  refine r_icmp (t := 24) dX6_entry_11 (by decide) c_lt (fun c => ?_) (fun c => ?_)
  · have h := h1 c
    refine r_g (pc' := 25) (ls' := [some (.ref r0), some (.int x1), some (.int u0)]) (st' := [.ref r0]) dX6_entry_24 (fun _ => rfl) ?_
    obtain ⟨hK, b1, hP, h⟩ := h
    refine r_getP dX6_entry_25 rfl (by decide) rfl hK hP ?_
    obtain ⟨hC, hS, h⟩ := h
    refine r_new (N := 5) dX6_entry_28 rfl (by decide) rfl hC hS ?_
    generalize eτ2 : alO σ (1 + 1) 5 = τ2
    replace h := h _ eτ2.symm
    refine r_g (pc' := 32) (ls' := [some (.ref r0), some (.int x1), some (.int u0)]) (st' := [.ref (zN σ), .ref (zN σ), .ref b1]) dX6_entry_31 (fun _ => rfl) ?_
    refine r_g (pc' := 33) (ls' := [some (.ref r0), some (.int x1), some (.int u0)]) (st' := [.int u0, .ref (zN σ), .ref (zN σ), .ref b1]) dX6_entry_32 (fun _ => rfl) ?_
    refine r_g (pc' := 34) (ls' := [some (.ref r0), some (.int x1), some (.int u0)]) (st' := [.int x1, .int u0, .ref (zN σ), .ref (zN σ), .ref b1]) dX6_entry_33 (fun _ => rfl) ?_
    exact r_call (th := false) dX6_entry_34 (fun _ => ex_calI rfl (by decide)) rfl (Nat.le_of_ble_eq_true rfl) (Nat.le_of_ble_eq_true rfl) (Nat.le_of_ble_eq_true rfl) rfl rfl rfl rfl (fun q => nomatch q) h
  · have h := h2 c
    exact r_thr rfl (Nat.le_of_ble_eq_true rfl) (Nat.le_of_ble_eq_true rfl) (Nat.le_of_ble_eq_true rfl) h.1.1 h.1.2 h.2
theorem b67_37 {g : Nat → Nat} {C S : Nat} {σ : PS} {Q : Rs → PS → Prop} {l0 : Option Value} {l1 : Option Value} {x2 : Int32} {w0 : Nat} {w1 : Nat}
    (h : zK σ w1 = 1 ∧ WP g C S 166 0 [some (.ref w1), some (.ref w0)] [] σ (KK g C S 67 40 [l0, l1, some (.int x2)] [] Q false)) :
    WP g C S 67 37 [l0, l1, some (.int x2)] [.ref w0, .ref w1] σ Q := by
  obtain ⟨hK, h⟩ := h
  exact r_call (th := false) dX6_entry_37 (fun _ => ex_calV rfl (by decide)) rfl (Nat.le_of_ble_eq_true rfl) (Nat.le_of_ble_eq_true rfl) (Nat.le_of_ble_eq_true rfl) (rcv0 rfl rfl (by decide) hK) rfl rfl rfl (fun q => nomatch q) h
theorem b67_40 {g : Nat → Nat} {C S : Nat} {σ : PS} {Q : Rs → PS → Prop} {l0 : Option Value} {l1 : Option Value} {x2 : Int32} {u0 : Int32}
    (h : Q (Sum.inl (some (.int x2))) σ) :
    WP g C S 67 40 [l0, l1, some (.int x2)] [.int u0] σ Q := by
  refine r_g (pc' := 41) (ls' := [l0, l1, some (.int x2)]) (st' := []) dX6_entry_40 (fun _ => rfl) ?_
  refine r_g (pc' := 42) (ls' := [l0, l1, some (.int x2)]) (st' := [.int x2]) dX6_entry_41 (fun _ => rfl) ?_
  exact r_ret dX6_entry_42 rfl h
theorem b68_0 {g : Nat → Nat} {C S : Nat} {σ : PS} {Q : Rs → PS → Prop} {r0 : Nat} {x1 : Int32} {x2 : Int32}
    (h : zK σ r0 = 8 ∧ WP g C S 81 0 [some (.ref r0), some (.int x1)] [] σ (KK g C S 68 5 [some (.ref r0), some (.int x1), some (.int x2)] [] Q true)) :
    WP g C S 68 0 [some (.ref r0), some (.int x1), some (.int x2)] [] σ Q := by
  refine r_g (pc' := 1) (ls' := [some (.ref r0), some (.int x1), some (.int x2)]) (st' := [.ref r0]) dX6_key_0 (fun _ => rfl) ?_
  refine r_g (pc' := 2) (ls' := [some (.ref r0), some (.int x1), some (.int x2)]) (st' := [.int x1, .ref r0]) dX6_key_1 (fun _ => rfl) ?_
  obtain ⟨hK, h⟩ := h
  exact r_call (th := true) dX6_key_2 (fun _ => ex_calV rfl (by decide)) rfl (Nat.le_of_ble_eq_true rfl) (Nat.le_of_ble_eq_true rfl) (Nat.le_of_ble_eq_true rfl) (rcv0 rfl rfl (by decide) hK) rfl rfl rfl (fun _ => ⟨by decide, by decide⟩) h
theorem b68_5 {g : Nat → Nat} {C S : Nat} {σ : PS} {Q : Rs → PS → Prop} {l0 : Option Value} {l1 : Option Value} {x2 : Int32} {w0 : Nat}
    (h : zK σ w0 = 2 ∧ ∃ b1, zP σ w0 2 = some b1 ∧ (WP g C S 86 0 [some (.ref b1), some (.int x2), some (.int 16), none, none, none] [] σ (KK g C S 68 14 [l0, l1, some (.int x2)] [] Q true))) :
    WP g C S 68 5 [l0, l1, some (.int x2)] [.ref w0] σ Q := by
  obtain ⟨hK, b1, hP, h⟩ := h
  refine r_getP dX6_key_5 rfl (by decide) rfl hK hP ?_
  refine r_g (pc' := 9) (ls' := [l0, l1, some (.int x2)]) (st' := [.int x2, .ref b1]) dX6_key_8 (fun _ => rfl) ?_
  refine r_bi (v := 16) dX6_key_9 (by decide) ?_
  exact r_call (th := true) dX6_key_11 (fun _ => ex_calS rfl (by decide)) rfl (Nat.le_of_ble_eq_true rfl) (Nat.le_of_ble_eq_true rfl) (Nat.le_of_ble_eq_true rfl) rfl rfl rfl rfl (fun _ => ⟨by decide, by decide⟩) h
theorem b68_14 {g : Nat → Nat} {C S : Nat} {σ : PS} {Q : Rs → PS → Prop} {l0 : Option Value} {l1 : Option Value} {l2 : Option Value}
    (h : Q (Sum.inl none) σ) :
    WP g C S 68 14 [l0, l1, l2] [] σ Q := by
  exact r_vret dX6_key_14 rfl h
theorem b69_0 {g : Nat → Nat} {C S : Nat} {σ : PS} {Q : Rs → PS → Prop} {r0 : Nat} {x1 : Int32} {x2 : Int32} {x3 : Int32} {l4 : Option Value}
    (h : zK σ r0 = 8 ∧ WP g C S 81 0 [some (.ref r0), some (.int x1)] [] σ (KK g C S 69 5 [some (.ref r0), some (.int x1), some (.int x2), some (.int x3), l4] [] Q true)) :
    WP g C S 69 0 [some (.ref r0), some (.int x1), some (.int x2), some (.int x3), l4] [] σ Q := by
  refine r_g (pc' := 1) (ls' := [some (.ref r0), some (.int x1), some (.int x2), some (.int x3), l4]) (st' := [.ref r0]) dX6_field_0 (fun _ => rfl) ?_
  refine r_g (pc' := 2) (ls' := [some (.ref r0), some (.int x1), some (.int x2), some (.int x3), l4]) (st' := [.int x1, .ref r0]) dX6_field_1 (fun _ => rfl) ?_
  obtain ⟨hK, h⟩ := h
  exact r_call (th := true) dX6_field_2 (fun _ => ex_calV rfl (by decide)) rfl (Nat.le_of_ble_eq_true rfl) (Nat.le_of_ble_eq_true rfl) (Nat.le_of_ble_eq_true rfl) (rcv0 rfl rfl (by decide) hK) rfl rfl rfl (fun _ => ⟨by decide, by decide⟩) h
theorem b69_5 {g : Nat → Nat} {C S : Nat} {σ : PS} {Q : Rs → PS → Prop} {l0 : Option Value} {l1 : Option Value} {x2 : Int32} {x3 : Int32} {l4 : Option Value} {w0 : Nat}
    (h : ((x2 : Int32) < 0 → WP g C S 69 17 [l0, l1, some (.int x2), some (.int x3), some (.ref w0)] [] σ Q) ∧ (¬ ((x2 : Int32) < 0) → ((x2 : Int32) < 8 → zK σ w0 = 2 ∧ WP g C S 1 0 [some (.ref w0), some (.int x2)] [] σ (KK g C S 69 33 [l0, l1, some (.int x2), some (.int x3), some (.ref w0)] [] Q false)) ∧ (¬ ((x2 : Int32) < 8) → WP g C S 69 17 [l0, l1, some (.int x2), some (.int x3), some (.ref w0)] [] σ Q))) :
    WP g C S 69 5 [l0, l1, some (.int x2), some (.int x3), l4] [.ref w0] σ Q := by
  refine r_g (pc' := 7) (ls' := [l0, l1, some (.int x2), some (.int x3), some (.ref w0)]) (st' := []) dX6_field_5 (fun _ => rfl) ?_
  refine r_g (pc' := 8) (ls' := [l0, l1, some (.int x2), some (.int x3), some (.ref w0)]) (st' := [.int x2]) dX6_field_7 (fun _ => rfl) ?_
  obtain ⟨h1, h2⟩ := h
  refine r_if (t := 17) dX6_field_8 (by decide) c_lt (fun c => ?_) (fun c => ?_)
  · have h := h1 c
    exact h
  · have h := h2 c
    refine r_g (pc' := 12) (ls' := [l0, l1, some (.int x2), some (.int x3), some (.ref w0)]) (st' := [.int x2]) dX6_field_11 (fun _ => rfl) ?_
    refine r_bi (v := 8) dX6_field_12 (by decide) ?_
    obtain ⟨h1, h2⟩ := h
    refine r_icmp (t := 27) dX6_field_14 (by decide) c_lt (fun c => ?_) (fun c => ?_)
    · have h := h1 c
      refine r_g (pc' := 29) (ls' := [l0, l1, some (.int x2), some (.int x3), some (.ref w0)]) (st' := [.ref w0]) dX6_field_27 (fun _ => rfl) ?_
      refine r_g (pc' := 30) (ls' := [l0, l1, some (.int x2), some (.int x3), some (.ref w0)]) (st' := [.int x2, .ref w0]) dX6_field_29 (fun _ => rfl) ?_
      obtain ⟨hK, h⟩ := h
      exact r_call (th := false) dX6_field_30 (fun _ => ex_calV rfl (by decide)) rfl (Nat.le_of_ble_eq_true rfl) (Nat.le_of_ble_eq_true rfl) (Nat.le_of_ble_eq_true rfl) (rcv0 rfl rfl (by decide) hK) rfl rfl rfl (fun q => nomatch q) h
    · have h := h2 c
      exact h
theorem b69_17 {g : Nat → Nat} {C S : Nat} {σ : PS} {Q : Rs → PS → Prop} {l0 : Option Value} {l1 : Option Value} {l2 : Option Value} {l3 : Option Value} {l4 : Option Value}
    (h : (zN σ + 1 ≤ C ∧ zS σ + 6 ≤ S) ∧ Q (Sum.inr 1) σ) :
    WP g C S 69 17 [l0, l1, l2, l3, l4] [] σ Q := by
  exact r_thr rfl (Nat.le_of_ble_eq_true rfl) (Nat.le_of_ble_eq_true rfl) (Nat.le_of_ble_eq_true rfl) h.1.1 h.1.2 h.2
theorem b69_33 {g : Nat → Nat} {C S : Nat} {σ : PS} {Q : Rs → PS → Prop} {l0 : Option Value} {l1 : Option Value} {l2 : Option Value} {x3 : Int32} {l4 : Option Value} {w0 : Nat}
    (h : WP g C S 86 0 [some (.ref w0), some (.int x3), some (.int 80), none, none, none] [] σ (KK g C S 69 39 [l0, l1, l2, some (.int x3), l4] [] Q true)) :
    WP g C S 69 33 [l0, l1, l2, some (.int x3), l4] [.ref w0] σ Q := by
  refine r_g (pc' := 34) (ls' := [l0, l1, l2, some (.int x3), l4]) (st' := [.int x3, .ref w0]) dX6_field_33 (fun _ => rfl) ?_
  refine r_bi (v := 80) dX6_field_34 (by decide) ?_
  exact r_call (th := true) dX6_field_36 (fun _ => ex_calS rfl (by decide)) rfl (Nat.le_of_ble_eq_true rfl) (Nat.le_of_ble_eq_true rfl) (Nat.le_of_ble_eq_true rfl) rfl rfl rfl rfl (fun _ => ⟨by decide, by decide⟩) h
theorem b69_39 {g : Nat → Nat} {C S : Nat} {σ : PS} {Q : Rs → PS → Prop} {l0 : Option Value} {l1 : Option Value} {l2 : Option Value} {l3 : Option Value} {l4 : Option Value}
    (h : Q (Sum.inl none) σ) :
    WP g C S 69 39 [l0, l1, l2, l3, l4] [] σ Q := by
  exact r_vret dX6_field_39 rfl h
theorem b70_0 {g : Nat → Nat} {C S : Nat} {σ : PS} {Q : Rs → PS → Prop} {r0 : Nat} {x1 : Int32} {l2 : Option Value}
    (h : zK σ r0 = 8 ∧ WP g C S 81 0 [some (.ref r0), some (.int x1)] [] σ (KK g C S 70 5 [some (.ref r0), some (.int x1), l2] [] Q true)) :
    WP g C S 70 0 [some (.ref r0), some (.int x1), l2] [] σ Q := by
  refine r_g (pc' := 1) (ls' := [some (.ref r0), some (.int x1), l2]) (st' := [.ref r0]) dX6_cite_0 (fun _ => rfl) ?_
  refine r_g (pc' := 2) (ls' := [some (.ref r0), some (.int x1), l2]) (st' := [.int x1, .ref r0]) dX6_cite_1 (fun _ => rfl) ?_
  obtain ⟨hK, h⟩ := h
  exact r_call (th := true) dX6_cite_2 (fun _ => ex_calV rfl (by decide)) rfl (Nat.le_of_ble_eq_true rfl) (Nat.le_of_ble_eq_true rfl) (Nat.le_of_ble_eq_true rfl) (rcv0 rfl rfl (by decide) hK) rfl rfl rfl (fun _ => ⟨by decide, by decide⟩) h
theorem b70_5 {g : Nat → Nat} {C S : Nat} {σ : PS} {Q : Rs → PS → Prop} {r0 : Nat} {l1 : Option Value} {l2 : Option Value} {w0 : Nat}
    (h : zK σ r0 = 8 ∧ ∃ b1, zP σ r0 1 = some b1 ∧ (zK σ b1 = 1 ∧ WP g C S 161 0 [some (.ref b1)] [] σ (KK g C S 70 13 [some (.ref r0), (clr l1), some (.ref w0)] [] Q false))) :
    WP g C S 70 5 [some (.ref r0), l1, l2] [.ref w0] σ Q := by
  refine r_g (pc' := 6) (ls' := [some (.ref r0), (clr l1), some (.ref w0)]) (st' := []) dX6_cite_5 (fun _ => rfl) ?_
  refine r_g (pc' := 7) (ls' := [some (.ref r0), (clr l1), some (.ref w0)]) (st' := [.ref r0]) dX6_cite_6 (fun _ => rfl) ?_
  obtain ⟨hK, b1, hP, h⟩ := h
  refine r_getP dX6_cite_7 rfl (by decide) rfl hK hP ?_
  obtain ⟨hK, h⟩ := h
  exact r_call (th := false) dX6_cite_10 (fun _ => ex_calV rfl (by decide)) rfl (Nat.le_of_ble_eq_true rfl) (Nat.le_of_ble_eq_true rfl) (Nat.le_of_ble_eq_true rfl) (rcv0 rfl rfl (by decide) hK) rfl rfl rfl (fun q => nomatch q) h
theorem b70_13 {g : Nat → Nat} {C S : Nat} {σ : PS} {Q : Rs → PS → Prop} {r0 : Nat} {l1 : Option Value} {r2 : Nat} {u0 : Int32}
    (h : ((u0 : Int32) < 60 → zK σ r0 = 8 ∧ ∃ b1, zP σ r0 1 = some b1 ∧ (zK σ b1 = 1 ∧ WP g C S 166 0 [some (.ref b1), some (.ref r2)] [] σ (KK g C S 70 36 [some (.ref r0), l1, some (.ref r2)] [] Q false))) ∧ (¬ ((u0 : Int32) < 60) → (zN σ + 1 ≤ C ∧ zS σ + 6 ≤ S) ∧ Q (Sum.inr 3) σ)) :
    WP g C S 70 13 [some (.ref r0), l1, some (.ref r2)] [.int u0] σ Q := by
  refine r_bi (v := 60) dX6_cite_13 (by decide) ?_
  obtain ⟨h1, h2⟩ := h
  refine r_icmp (t := 28) dX6_cite_15 (by decide) c_lt (fun c => ?_) (fun c => ?_)
  · have h := h1 c
    refine r_g (pc' := 29) (ls' := [some (.ref r0), l1, some (.ref r2)]) (st' := [.ref r0]) dX6_cite_28 (fun _ => rfl) ?_
    obtain ⟨hK, b1, hP, h⟩ := h
    refine r_getP dX6_cite_29 rfl (by decide) rfl hK hP ?_
    refine r_g (pc' := 33) (ls' := [some (.ref r0), l1, some (.ref r2)]) (st' := [.ref r2, .ref b1]) dX6_cite_32 (fun _ => rfl) ?_
    obtain ⟨hK, h⟩ := h
    exact r_call (th := false) dX6_cite_33 (fun _ => ex_calV rfl (by decide)) rfl (Nat.le_of_ble_eq_true rfl) (Nat.le_of_ble_eq_true rfl) (Nat.le_of_ble_eq_true rfl) (rcv0 rfl rfl (by decide) hK) rfl rfl rfl (fun q => nomatch q) h
  · have h := h2 c
    exact r_thr rfl (Nat.le_of_ble_eq_true rfl) (Nat.le_of_ble_eq_true rfl) (Nat.le_of_ble_eq_true rfl) h.1.1 h.1.2 h.2
theorem b70_36 {g : Nat → Nat} {C S : Nat} {σ : PS} {Q : Rs → PS → Prop} {r0 : Nat} {l1 : Option Value} {l2 : Option Value} {u0 : Int32}
    (h : zK σ r0 = 8 ∧ ∃ b1, zP σ r0 1 = some b1 ∧ (zK σ b1 = 1 ∧ WP g C S 161 0 [some (.ref b1)] [] σ (KK g C S 70 44 [some (.ref r0), l1, l2] [] Q false))) :
    WP g C S 70 36 [some (.ref r0), l1, l2] [.int u0] σ Q := by
  refine r_g (pc' := 37) (ls' := [some (.ref r0), l1, l2]) (st' := []) dX6_cite_36 (fun _ => rfl) ?_
  refine r_g (pc' := 38) (ls' := [some (.ref r0), l1, l2]) (st' := [.ref r0]) dX6_cite_37 (fun _ => rfl) ?_
  obtain ⟨hK, b1, hP, h⟩ := h
  refine r_getP dX6_cite_38 rfl (by decide) rfl hK hP ?_
  obtain ⟨hK, h⟩ := h
  exact r_call (th := false) dX6_cite_41 (fun _ => ex_calV rfl (by decide)) rfl (Nat.le_of_ble_eq_true rfl) (Nat.le_of_ble_eq_true rfl) (Nat.le_of_ble_eq_true rfl) (rcv0 rfl rfl (by decide) hK) rfl rfl rfl (fun q => nomatch q) h
theorem b70_44 {g : Nat → Nat} {C S : Nat} {σ : PS} {Q : Rs → PS → Prop} {l0 : Option Value} {l1 : Option Value} {l2 : Option Value} {u0 : Int32}
    (h : Q (Sum.inl (some (.int u0))) σ) :
    WP g C S 70 44 [l0, l1, l2] [.int u0] σ Q := by
  exact r_ret dX6_cite_44 rfl h
theorem b71_0 {g : Nat → Nat} {C S : Nat} {σ : PS} {Q : Rs → PS → Prop} {r0 : Nat} {x1 : Int32} {x2 : Int32} {l3 : Option Value} {l4 : Option Value}
    (h : zK σ r0 = 8 ∧ WP g C S 81 0 [some (.ref r0), some (.int x1)] [] σ (KK g C S 71 5 [some (.ref r0), some (.int x1), some (.int x2), l3, l4] [] Q true)) :
    WP g C S 71 0 [some (.ref r0), some (.int x1), some (.int x2), l3, l4] [] σ Q := by
  refine r_g (pc' := 1) (ls' := [some (.ref r0), some (.int x1), some (.int x2), l3, l4]) (st' := [.ref r0]) dX6_cross_0 (fun _ => rfl) ?_
  refine r_g (pc' := 2) (ls' := [some (.ref r0), some (.int x1), some (.int x2), l3, l4]) (st' := [.int x1, .ref r0]) dX6_cross_1 (fun _ => rfl) ?_
  obtain ⟨hK, h⟩ := h
  exact r_call (th := true) dX6_cross_2 (fun _ => ex_calV rfl (by decide)) rfl (Nat.le_of_ble_eq_true rfl) (Nat.le_of_ble_eq_true rfl) (Nat.le_of_ble_eq_true rfl) (rcv0 rfl rfl (by decide) hK) rfl rfl rfl (fun _ => ⟨by decide, by decide⟩) h
theorem b71_5 {g : Nat → Nat} {C S : Nat} {σ : PS} {Q : Rs → PS → Prop} {r0 : Nat} {l1 : Option Value} {x2 : Int32} {l3 : Option Value} {l4 : Option Value} {w0 : Nat}
    (h : zK σ r0 = 8 ∧ WP g C S 81 0 [some (.ref r0), some (.int x2)] [] σ (KK g C S 71 11 [some (.ref r0), l1, some (.int x2), some (.ref w0), l4] [] Q true)) :
    WP g C S 71 5 [some (.ref r0), l1, some (.int x2), l3, l4] [.ref w0] σ Q := by
  refine r_g (pc' := 6) (ls' := [some (.ref r0), l1, some (.int x2), some (.ref w0), l4]) (st' := []) dX6_cross_5 (fun _ => rfl) ?_
  refine r_g (pc' := 7) (ls' := [some (.ref r0), l1, some (.int x2), some (.ref w0), l4]) (st' := [.ref r0]) dX6_cross_6 (fun _ => rfl) ?_
  refine r_g (pc' := 8) (ls' := [some (.ref r0), l1, some (.int x2), some (.ref w0), l4]) (st' := [.int x2, .ref r0]) dX6_cross_7 (fun _ => rfl) ?_
  obtain ⟨hK, h⟩ := h
  exact r_call (th := true) dX6_cross_8 (fun _ => ex_calV rfl (by decide)) rfl (Nat.le_of_ble_eq_true rfl) (Nat.le_of_ble_eq_true rfl) (Nat.le_of_ble_eq_true rfl) (rcv0 rfl rfl (by decide) hK) rfl rfl rfl (fun _ => ⟨by decide, by decide⟩) h
theorem b71_11 {g : Nat → Nat} {C S : Nat} {σ : PS} {Q : Rs → PS → Prop} {l0 : Option Value} {l1 : Option Value} {l2 : Option Value} {r3 : Nat} {l4 : Option Value} {w0 : Nat}
    (h : zK σ w0 = 2 ∧ WP g C S 4 0 [some (.ref w0), some (.ref r3), none, none] [] σ (KK g C S 71 19 [l0, l1, l2, some (.ref r3), some (.ref w0)] [] Q false)) :
    WP g C S 71 11 [l0, l1, l2, some (.ref r3), l4] [.ref w0] σ Q := by
  refine r_g (pc' := 13) (ls' := [l0, l1, l2, some (.ref r3), some (.ref w0)]) (st' := []) dX6_cross_11 (fun _ => rfl) ?_
  refine r_g (pc' := 15) (ls' := [l0, l1, l2, some (.ref r3), some (.ref w0)]) (st' := [.ref w0]) dX6_cross_13 (fun _ => rfl) ?_
  refine r_g (pc' := 16) (ls' := [l0, l1, l2, some (.ref r3), some (.ref w0)]) (st' := [.ref r3, .ref w0]) dX6_cross_15 (fun _ => rfl) ?_
  obtain ⟨hK, h⟩ := h
  exact r_call (th := false) dX6_cross_16 (fun _ => ex_calV rfl (by decide)) rfl (Nat.le_of_ble_eq_true rfl) (Nat.le_of_ble_eq_true rfl) (Nat.le_of_ble_eq_true rfl) (rcv0 rfl rfl (by decide) hK) rfl rfl rfl (fun q => nomatch q) h
theorem b71_19 {g : Nat → Nat} {C S : Nat} {σ : PS} {Q : Rs → PS → Prop} {l0 : Option Value} {l1 : Option Value} {l2 : Option Value} {r3 : Nat} {r4 : Nat} {u0 : Int32}
    (h : ((u0 : Int32) = 0 → zK σ r3 = 2 ∧ (∀ τ1, τ1 = stP σ r3 4 (some r4) → Q (Sum.inl (some (.int 1))) τ1)) ∧ (¬ ((u0 : Int32) = 0) → Q (Sum.inl (some (.int 0))) σ)) :
    WP g C S 71 19 [l0, l1, l2, some (.ref r3), some (.ref r4)] [.int u0] σ Q := by
  obtain ⟨h1, h2⟩ := h
  refine r_if (t := 24) dX6_cross_19 (by decide) c_eq (fun c => ?_) (fun c => ?_)
  · have h := h1 c
    refine r_g (pc' := 25) (ls' := [l0, l1, l2, some (.ref r3), some (.ref r4)]) (st' := [.ref r3]) dX6_cross_24 (fun _ => rfl) ?_
    refine r_g (pc' := 27) (ls' := [l0, l1, l2, some (.ref r3), some (.ref r4)]) (st' := [.ref r4, .ref r3]) dX6_cross_25 (fun _ => rfl) ?_
    obtain ⟨hK, h⟩ := h
    refine r_putP dX6_cross_27 rfl (by decide) (Or.inl rfl) rfl hK ?_
    generalize eτ1 : stP σ r3 4 (some r4) = τ1
    replace h := h _ eτ1.symm
    refine r_ic (v := 1) dX6_cross_30 (by decide) ?_
    exact r_ret dX6_cross_31 rfl h
  · have h := h2 c
    refine r_ic (v := 0) dX6_cross_22 (by decide) ?_
    exact r_ret dX6_cross_23 rfl h
theorem b72_0 {g : Nat → Nat} {C S : Nat} {σ : PS} {Q : Rs → PS → Prop} {r0 : Nat} {x1 : Int32} {x2 : Int32} {l3 : Option Value}
    (h : ((x1 : Int32) < 0 → WP g C S 72 18 [some (.ref r0), some (.int x1), some (.int x2), l3] [] σ Q) ∧ (¬ ((x1 : Int32) < 0) → ((2 : Int32) < x1 → WP g C S 72 18 [some (.ref r0), some (.int x1), some (.int x2), l3] [] σ Q) ∧ (¬ ((2 : Int32) < x1) → ((x2 : Int32) < 0 → WP g C S 72 18 [some (.ref r0), some (.int x1), some (.int x2), l3] [] σ Q) ∧ (¬ ((x2 : Int32) < 0) → ((x2 : Int32) ≤ 2 → zK σ r0 = 8 ∧ zK σ r0 = 8 ∧ zK σ r0 = 8 ∧ (∀ τ1, τ1 = stI σ r0 2 x1 → zK τ1 r0 = 8 ∧ (∀ τ2, τ2 = stI τ1 r0 3 x2 → Q (Sum.inl (some (.int ((10 * (zI σ r0 2)) + (zI σ r0 3))))) τ2))) ∧ (¬ ((x2 : Int32) ≤ 2) → WP g C S 72 18 [some (.ref r0), some (.int x1), some (.int x2), l3] [] σ Q))))) :
    WP g C S 72 0 [some (.ref r0), some (.int x1), some (.int x2), l3] [] σ Q := by
  refine r_g (pc' := 1) (ls' := [some (.ref r0), some (.int x1), some (.int x2), l3]) (st' := [.int x1]) dX6_style_0 (fun _ => rfl) ?_
  obtain ⟨h1, h2⟩ := h
  refine r_if (t := 18) dX6_style_1 (by decide) c_lt (fun c => ?_) (fun c => ?_)
  · have h := h1 c
    exact h
  · have h := h2 c
    refine r_g (pc' := 5) (ls' := [some (.ref r0), some (.int x1), some (.int x2), l3]) (st' := [.int x1]) dX6_style_4 (fun _ => rfl) ?_
    refine r_ic (v := 2) dX6_style_5 (by decide) ?_
    obtain ⟨h1, h2⟩ := h
    refine r_icmp (t := 18) dX6_style_6 (by decide) c_gt (fun c => ?_) (fun c => ?_)
    · have h := h1 c
      exact h
    · have h := h2 c
      refine r_g (pc' := 10) (ls' := [some (.ref r0), some (.int x1), some (.int x2), l3]) (st' := [.int x2]) dX6_style_9 (fun _ => rfl) ?_
      obtain ⟨h1, h2⟩ := h
      refine r_if (t := 18) dX6_style_10 (by decide) c_lt (fun c => ?_) (fun c => ?_)
      · have h := h1 c
        exact h
      · have h := h2 c
        refine r_g (pc' := 14) (ls' := [some (.ref r0), some (.int x1), some (.int x2), l3]) (st' := [.int x2]) dX6_style_13 (fun _ => rfl) ?_
        refine r_ic (v := 2) dX6_style_14 (by decide) ?_
        obtain ⟨h1, h2⟩ := h
        refine r_icmp (t := 28) dX6_style_15 (by decide) c_le (fun c => ?_) (fun c => ?_)
        · have h := h1 c
          refine r_bi (v := 10) dX6_style_28 (by decide) ?_
          refine r_g (pc' := 31) (ls' := [some (.ref r0), some (.int x1), some (.int x2), l3]) (st' := [.ref r0, .int 10]) dX6_style_30 (fun _ => rfl) ?_
          obtain ⟨hK, h⟩ := h
          refine r_getI dX6_style_31 rfl (by decide) rfl hK ?_
          refine r_g (pc' := 35) (ls' := [some (.ref r0), some (.int x1), some (.int x2), l3]) (st' := [.int (10 * (zI σ r0 2))]) dX6_style_34 (fun _ => rfl) ?_
          refine r_g (pc' := 36) (ls' := [some (.ref r0), some (.int x1), some (.int x2), l3]) (st' := [.ref r0, .int (10 * (zI σ r0 2))]) dX6_style_35 (fun _ => rfl) ?_
          obtain ⟨hK, h⟩ := h
          refine r_getI dX6_style_36 rfl (by decide) rfl hK ?_
          refine r_g (pc' := 40) (ls' := [some (.ref r0), some (.int x1), some (.int x2), l3]) (st' := [.int ((10 * (zI σ r0 2)) + (zI σ r0 3))]) dX6_style_39 (fun _ => rfl) ?_
          refine r_g (pc' := 41) (ls' := [some (.ref r0), some (.int x1), some (.int x2), some (.int ((10 * (zI σ r0 2)) + (zI σ r0 3)))]) (st' := []) dX6_style_40 (fun _ => rfl) ?_
          refine r_g (pc' := 42) (ls' := [some (.ref r0), some (.int x1), some (.int x2), some (.int ((10 * (zI σ r0 2)) + (zI σ r0 3)))]) (st' := [.ref r0]) dX6_style_41 (fun _ => rfl) ?_
          refine r_g (pc' := 43) (ls' := [some (.ref r0), some (.int x1), some (.int x2), some (.int ((10 * (zI σ r0 2)) + (zI σ r0 3)))]) (st' := [.int x1, .ref r0]) dX6_style_42 (fun _ => rfl) ?_
          obtain ⟨hK, h⟩ := h
          refine r_putI dX6_style_43 rfl (by decide) (Or.inl rfl) rfl (Or.inl rfl) hK ?_
          generalize eτ1 : stI σ r0 2 x1 = τ1
          replace h := h _ eτ1.symm
          refine r_g (pc' := 47) (ls' := [some (.ref r0), some (.int x1), some (.int x2), some (.int ((10 * (zI σ r0 2)) + (zI σ r0 3)))]) (st' := [.ref r0]) dX6_style_46 (fun _ => rfl) ?_
          refine r_g (pc' := 48) (ls' := [some (.ref r0), some (.int x1), some (.int x2), some (.int ((10 * (zI σ r0 2)) + (zI σ r0 3)))]) (st' := [.int x2, .ref r0]) dX6_style_47 (fun _ => rfl) ?_
          obtain ⟨hK, h⟩ := h
          refine r_putI dX6_style_48 rfl (by decide) (Or.inl rfl) rfl (Or.inl rfl) hK ?_
          generalize eτ2 : stI τ1 r0 3 x2 = τ2
          replace h := h _ eτ2.symm
          refine r_g (pc' := 52) (ls' := [some (.ref r0), some (.int x1), some (.int x2), some (.int ((10 * (zI σ r0 2)) + (zI σ r0 3)))]) (st' := [.int ((10 * (zI σ r0 2)) + (zI σ r0 3))]) dX6_style_51 (fun _ => rfl) ?_
          exact r_ret dX6_style_52 rfl h
        · have h := h2 c
          exact h
theorem b72_18 {g : Nat → Nat} {C S : Nat} {σ : PS} {Q : Rs → PS → Prop} {l0 : Option Value} {l1 : Option Value} {l2 : Option Value} {l3 : Option Value}
    (h : (zN σ + 1 ≤ C ∧ zS σ + 6 ≤ S) ∧ Q (Sum.inr 2) σ) :
    WP g C S 72 18 [l0, l1, l2, l3] [] σ Q := by
  exact r_thr rfl (Nat.le_of_ble_eq_true rfl) (Nat.le_of_ble_eq_true rfl) (Nat.le_of_ble_eq_true rfl) h.1.1 h.1.2 h.2
theorem b73_0 {g : Nat → Nat} {C S : Nat} {σ : PS} {Q : Rs → PS → Prop} {r0 : Nat} {l1 : Option Value}
    (h : zK σ r0 = 8 ∧ ∃ b1, zP σ r0 4 = some b1 ∧ (zK σ b1 = 3 ∧ WP g C S 8 0 [some (.ref b1)] [] σ (KK g C S 73 7 [some (.ref r0), l1] [] Q false))) :
    WP g C S 73 0 [some (.ref r0), l1] [] σ Q := by
  refine r_g (pc' := 1) (ls' := [some (.ref r0), l1]) (st' := [.ref r0]) dX6_run_0 (fun _ => rfl) ?_
  obtain ⟨hK, b1, hP, h⟩ := h
  refine r_getP dX6_run_1 rfl (by decide) rfl hK hP ?_
  obtain ⟨hK, h⟩ := h
  exact r_call (th := false) dX6_run_4 (fun _ => ex_calV rfl (by decide)) rfl (Nat.le_of_ble_eq_true rfl) (Nat.le_of_ble_eq_true rfl) (Nat.le_of_ble_eq_true rfl) (rcv0 rfl rfl (by decide) hK) rfl rfl rfl (fun q => nomatch q) h
theorem b73_7 {g : Nat → Nat} {C S : Nat} {σ : PS} {Q : Rs → PS → Prop} {r0 : Nat} {l1 : Option Value}
    (h : WP g C S 73 9 [some (.ref r0), some (.int 0)] [] σ Q) :
    WP g C S 73 7 [some (.ref r0), l1] [] σ Q := by
  refine r_ic (v := 0) dX6_run_7 (by decide) ?_
  refine r_g (pc' := 9) (ls' := [some (.ref r0), some (.int 0)]) (st' := []) dX6_run_8 (fun _ => rfl) ?_
  exact h
theorem b73_9 {g : Nat → Nat} {C S : Nat} {σ : PS} {Q : Rs → PS → Prop} {r0 : Nat} {x1 : Int32}
    (h : zK σ r0 = 8 ∧ ∃ b1, zP σ r0 1 = some b1 ∧ (zK σ b1 = 1 ∧ WP g C S 161 0 [some (.ref b1)] [] σ (KK g C S 73 17 [some (.ref r0), some (.int x1)] [.int x1] Q false))) :
    WP g C S 73 9 [some (.ref r0), some (.int x1)] [] σ Q := by
  refine r_g (pc' := 10) (ls' := [some (.ref r0), some (.int x1)]) (st' := [.int x1]) dX6_run_9 (fun _ => rfl) ?_
  refine r_g (pc' := 11) (ls' := [some (.ref r0), some (.int x1)]) (st' := [.ref r0, .int x1]) dX6_run_10 (fun _ => rfl) ?_
  obtain ⟨hK, b1, hP, h⟩ := h
  refine r_getP dX6_run_11 rfl (by decide) rfl hK hP ?_
  obtain ⟨hK, h⟩ := h
  exact r_call (th := false) dX6_run_14 (fun _ => ex_calV rfl (by decide)) rfl (Nat.le_of_ble_eq_true rfl) (Nat.le_of_ble_eq_true rfl) (Nat.le_of_ble_eq_true rfl) (rcv0 rfl rfl (by decide) hK) rfl rfl rfl (fun q => nomatch q) h
theorem b73_17 {g : Nat → Nat} {C S : Nat} {σ : PS} {Q : Rs → PS → Prop} {r0 : Nat} {x1 : Int32} {u0 : Int32} {u1 : Int32}
    (h : ((u0 : Int32) ≤ u1 → zK σ r0 = 8 ∧ ∃ b1, zP σ r0 4 = some b1 ∧ (zK σ r0 = 8 ∧ zK σ b1 = 3 ∧ WP g C S 10 0 [some (.ref b1), some (.int (zI σ r0 2)), none, none, none] [] σ (KK g C S 73 59 [some (.ref r0), some (.int x1)] [] Q false))) ∧ (¬ ((u0 : Int32) ≤ u1) → zK σ r0 = 8 ∧ ∃ b2, zP σ r0 4 = some b2 ∧ (zK σ r0 = 8 ∧ ∃ b3, zP σ r0 1 = some b3 ∧ (zK σ b3 = 1 ∧ WP g C S 163 0 [some (.ref b3), some (.int x1)] [] σ (KK g C S 73 33 [some (.ref r0), some (.int x1)] [.ref r0, .ref b2] Q false))))) :
    WP g C S 73 17 [some (.ref r0), some (.int x1)] [.int u0, .int u1] σ Q := by
  obtain ⟨h1, h2⟩ := h
  refine r_icmp (t := 48) dX6_run_17 (by decide) c_ge (fun c => ?_) (fun c => ?_)
  · have h := h1 c
    refine r_g (pc' := 49) (ls' := [some (.ref r0), some (.int x1)]) (st' := [.ref r0]) dX6_run_48 (fun _ => rfl) ?_
    obtain ⟨hK, b1, hP, h⟩ := h
    refine r_getP dX6_run_49 rfl (by decide) rfl hK hP ?_
    refine r_g (pc' := 53) (ls' := [some (.ref r0), some (.int x1)]) (st' := [.ref r0, .ref b1]) dX6_run_52 (fun _ => rfl) ?_
    obtain ⟨hK, h⟩ := h
    refine r_getI dX6_run_53 rfl (by decide) rfl hK ?_
    obtain ⟨hK, h⟩ := h
    exact r_call (th := false) dX6_run_56 (fun _ => ex_calV rfl (by decide)) rfl (Nat.le_of_ble_eq_true rfl) (Nat.le_of_ble_eq_true rfl) (Nat.le_of_ble_eq_true rfl) (rcv0 rfl rfl (by decide) hK) rfl rfl rfl (fun q => nomatch q) h
  · have h := h2 c
    refine r_g (pc' := 21) (ls' := [some (.ref r0), some (.int x1)]) (st' := [.ref r0]) dX6_run_20 (fun _ => rfl) ?_
    obtain ⟨hK, b2, hP, h⟩ := h
    refine r_getP dX6_run_21 rfl (by decide) rfl hK hP ?_
    refine r_g (pc' := 25) (ls' := [some (.ref r0), some (.int x1)]) (st' := [.ref r0, .ref b2]) dX6_run_24 (fun _ => rfl) ?_
    refine r_g (pc' := 26) (ls' := [some (.ref r0), some (.int x1)]) (st' := [.ref r0, .ref r0, .ref b2]) dX6_run_25 (fun _ => rfl) ?_
    obtain ⟨hK, b3, hP, h⟩ := h
    refine r_getP dX6_run_26 rfl (by decide) rfl hK hP ?_
    refine r_g (pc' := 30) (ls' := [some (.ref r0), some (.int x1)]) (st' := [.int x1, .ref b3, .ref r0, .ref b2]) dX6_run_29 (fun _ => rfl) ?_
    obtain ⟨hK, h⟩ := h
    exact r_call (th := false) dX6_run_30 (fun _ => ex_calV rfl (by decide)) rfl (Nat.le_of_ble_eq_true rfl) (Nat.le_of_ble_eq_true rfl) (Nat.le_of_ble_eq_true rfl) (rcv0 rfl rfl (by decide) hK) rfl rfl rfl (fun q => nomatch q) h
theorem b73_33 {g : Nat → Nat} {C S : Nat} {σ : PS} {Q : Rs → PS → Prop} {r0 : Nat} {x1 : Int32} {w0 : Nat} {w1 : Nat} {w2 : Nat}
    (h : zK σ w0 = 2 ∧ zK σ w1 = 8 ∧ WP g C S 83 0 [some (.ref w1), some (.ref w0), none] [] σ (KK g C S 73 39 [some (.ref r0), some (.int x1)] [.ref w2] Q true)) :
    WP g C S 73 33 [some (.ref r0), some (.int x1)] [.ref w0, .ref w1, .ref w2] σ Q := by
  obtain ⟨hK, h⟩ := h
  refine r_chk dX6_run_33 rfl (Or.inl ⟨by decide, hK⟩) ?_
  obtain ⟨hK, h⟩ := h
  exact r_call (th := true) dX6_run_36 (fun _ => ex_calV rfl (by decide)) rfl (Nat.le_of_ble_eq_true rfl) (Nat.le_of_ble_eq_true rfl) (Nat.le_of_ble_eq_true rfl) (rcv0 rfl rfl (by decide) hK) rfl rfl rfl (fun _ => ⟨by decide, by decide⟩) h
theorem b73_39 {g : Nat → Nat} {C S : Nat} {σ : PS} {Q : Rs → PS → Prop} {r0 : Nat} {x1 : Int32} {w0 : Nat} {w1 : Nat}
    (h : zK σ w1 = 3 ∧ WP g C S 9 0 [some (.ref w1), some (.ref w0), none] [] σ (KK g C S 73 42 [some (.ref r0), some (.int x1)] [] Q false)) :
    WP g C S 73 39 [some (.ref r0), some (.int x1)] [.ref w0, .ref w1] σ Q := by
  obtain ⟨hK, h⟩ := h
  exact r_call (th := false) dX6_run_39 (fun _ => ex_calV rfl (by decide)) rfl (Nat.le_of_ble_eq_true rfl) (Nat.le_of_ble_eq_true rfl) (Nat.le_of_ble_eq_true rfl) (rcv0 rfl rfl (by decide) hK) rfl rfl rfl (fun q => nomatch q) h
theorem b73_42 {g : Nat → Nat} {C S : Nat} {σ : PS} {Q : Rs → PS → Prop} {r0 : Nat} {x1 : Int32}
    (h : WP g C S 73 9 [some (.ref r0), some (.int (x1 + 1))] [] σ Q) :
    WP g C S 73 42 [some (.ref r0), some (.int x1)] [] σ Q := by
  refine r_inc (v := 1) (ls' := [some (.ref r0), some (.int (x1 + 1))]) dX6_run_42 rfl (Nat.le_of_ble_eq_true rfl) (by decide) rfl ?_
  refine r_goto (t := 9) dX6_run_45 (by decide) ?_
  exact h
theorem b73_59 {g : Nat → Nat} {C S : Nat} {σ : PS} {Q : Rs → PS → Prop} {r0 : Nat} {l1 : Option Value}
    (h : zK σ r0 = 8 ∧ ∃ b1, zP σ r0 4 = some b1 ∧ (zK σ r0 = 8 ∧ zK σ b1 = 3 ∧ WP g C S 11 0 [some (.ref b1), some (.int (zI σ r0 3)), none] [] σ (KK g C S 73 70 [some (.ref r0), l1] [] Q false))) :
    WP g C S 73 59 [some (.ref r0), l1] [] σ Q := by
  refine r_g (pc' := 60) (ls' := [some (.ref r0), l1]) (st' := [.ref r0]) dX6_run_59 (fun _ => rfl) ?_
  obtain ⟨hK, b1, hP, h⟩ := h
  refine r_getP dX6_run_60 rfl (by decide) rfl hK hP ?_
  refine r_g (pc' := 64) (ls' := [some (.ref r0), l1]) (st' := [.ref r0, .ref b1]) dX6_run_63 (fun _ => rfl) ?_
  obtain ⟨hK, h⟩ := h
  refine r_getI dX6_run_64 rfl (by decide) rfl hK ?_
  obtain ⟨hK, h⟩ := h
  exact r_call (th := false) dX6_run_67 (fun _ => ex_calV rfl (by decide)) rfl (Nat.le_of_ble_eq_true rfl) (Nat.le_of_ble_eq_true rfl) (Nat.le_of_ble_eq_true rfl) (rcv0 rfl rfl (by decide) hK) rfl rfl rfl (fun q => nomatch q) h
theorem b73_70 {g : Nat → Nat} {C S : Nat} {σ : PS} {Q : Rs → PS → Prop} {r0 : Nat} {l1 : Option Value}
    (h : zK σ r0 = 8 ∧ ∃ b1, zP σ r0 4 = some b1 ∧ (zK σ b1 = 3 ∧ WP g C S 13 0 [some (.ref b1), none] [] σ (KK g C S 73 77 [some (.ref r0), l1] [] Q false))) :
    WP g C S 73 70 [some (.ref r0), l1] [] σ Q := by
  refine r_g (pc' := 71) (ls' := [some (.ref r0), l1]) (st' := [.ref r0]) dX6_run_70 (fun _ => rfl) ?_
  obtain ⟨hK, b1, hP, h⟩ := h
  refine r_getP dX6_run_71 rfl (by decide) rfl hK hP ?_
  obtain ⟨hK, h⟩ := h
  exact r_call (th := false) dX6_run_74 (fun _ => ex_calV rfl (by decide)) rfl (Nat.le_of_ble_eq_true rfl) (Nat.le_of_ble_eq_true rfl) (Nat.le_of_ble_eq_true rfl) (rcv0 rfl rfl (by decide) hK) rfl rfl rfl (fun q => nomatch q) h
theorem b73_77 {g : Nat → Nat} {C S : Nat} {σ : PS} {Q : Rs → PS → Prop} {r0 : Nat} {l1 : Option Value}
    (h : WP g C S 73 79 [some (.ref r0), some (.int 0)] [] σ Q) :
    WP g C S 73 77 [some (.ref r0), l1] [] σ Q := by
  refine r_ic (v := 0) dX6_run_77 (by decide) ?_
  refine r_g (pc' := 79) (ls' := [some (.ref r0), some (.int 0)]) (st' := []) dX6_run_78 (fun _ => rfl) ?_
  exact h
theorem b73_79 {g : Nat → Nat} {C S : Nat} {σ : PS} {Q : Rs → PS → Prop} {r0 : Nat} {x1 : Int32}
    (h : zK σ r0 = 8 ∧ ∃ b1, zP σ r0 4 = some b1 ∧ (zK σ b1 = 3 ∧ WP g C S 6 0 [some (.ref b1)] [] σ (KK g C S 73 87 [some (.ref r0), some (.int x1)] [.int x1] Q false))) :
    WP g C S 73 79 [some (.ref r0), some (.int x1)] [] σ Q := by
  refine r_g (pc' := 80) (ls' := [some (.ref r0), some (.int x1)]) (st' := [.int x1]) dX6_run_79 (fun _ => rfl) ?_
  refine r_g (pc' := 81) (ls' := [some (.ref r0), some (.int x1)]) (st' := [.ref r0, .int x1]) dX6_run_80 (fun _ => rfl) ?_
  obtain ⟨hK, b1, hP, h⟩ := h
  refine r_getP dX6_run_81 rfl (by decide) rfl hK hP ?_
  obtain ⟨hK, h⟩ := h
  exact r_call (th := false) dX6_run_84 (fun _ => ex_calV rfl (by decide)) rfl (Nat.le_of_ble_eq_true rfl) (Nat.le_of_ble_eq_true rfl) (Nat.le_of_ble_eq_true rfl) (rcv0 rfl rfl (by decide) hK) rfl rfl rfl (fun q => nomatch q) h
theorem b73_87 {g : Nat → Nat} {C S : Nat} {σ : PS} {Q : Rs → PS → Prop} {r0 : Nat} {x1 : Int32} {u0 : Int32} {u1 : Int32}
    (h : ((u0 : Int32) ≤ u1 → zK σ r0 = 8 ∧ ∃ b1, zP σ r0 4 = some b1 ∧ (zK σ b1 = 3 ∧ WP g C S 15 0 [some (.ref b1), none, none, none, none] [] σ (KK g C S 73 119 [some (.ref r0), some (.int x1)] [] Q false))) ∧ (¬ ((u0 : Int32) ≤ u1) → zK σ r0 = 8 ∧ ∃ b2, zP σ r0 4 = some b2 ∧ (zK σ b2 = 3 ∧ WP g C S 7 0 [some (.ref b2), some (.int x1)] [] σ (KK g C S 73 98 [some (.ref r0), some (.int x1)] [] Q false)))) :
    WP g C S 73 87 [some (.ref r0), some (.int x1)] [.int u0, .int u1] σ Q := by
  obtain ⟨h1, h2⟩ := h
  refine r_icmp (t := 112) dX6_run_87 (by decide) c_ge (fun c => ?_) (fun c => ?_)
  · have h := h1 c
    refine r_g (pc' := 113) (ls' := [some (.ref r0), some (.int x1)]) (st' := [.ref r0]) dX6_run_112 (fun _ => rfl) ?_
    obtain ⟨hK, b1, hP, h⟩ := h
    refine r_getP dX6_run_113 rfl (by decide) rfl hK hP ?_
    obtain ⟨hK, h⟩ := h
    exact r_call (th := false) dX6_run_116 (fun _ => ex_calV rfl (by decide)) rfl (Nat.le_of_ble_eq_true rfl) (Nat.le_of_ble_eq_true rfl) (Nat.le_of_ble_eq_true rfl) (rcv0 rfl rfl (by decide) hK) rfl rfl rfl (fun q => nomatch q) h
  · have h := h2 c
    refine r_g (pc' := 91) (ls' := [some (.ref r0), some (.int x1)]) (st' := [.ref r0]) dX6_run_90 (fun _ => rfl) ?_
    obtain ⟨hK, b2, hP, h⟩ := h
    refine r_getP dX6_run_91 rfl (by decide) rfl hK hP ?_
    refine r_g (pc' := 95) (ls' := [some (.ref r0), some (.int x1)]) (st' := [.int x1, .ref b2]) dX6_run_94 (fun _ => rfl) ?_
    obtain ⟨hK, h⟩ := h
    exact r_call (th := false) dX6_run_95 (fun _ => ex_calV rfl (by decide)) rfl (Nat.le_of_ble_eq_true rfl) (Nat.le_of_ble_eq_true rfl) (Nat.le_of_ble_eq_true rfl) (rcv0 rfl rfl (by decide) hK) rfl rfl rfl (fun q => nomatch q) h
theorem b73_98 {g : Nat → Nat} {C S : Nat} {σ : PS} {Q : Rs → PS → Prop} {r0 : Nat} {x1 : Int32} {w0 : Nat}
    (h : zK σ r0 = 8 ∧ zK σ w0 = 6 ∧ WP g C S 46 0 [some (.ref w0), some (.int (zI σ r0 3)), some (.int x1), none] [] σ (KK g C S 73 106 [some (.ref r0), some (.int x1)] [] Q false)) :
    WP g C S 73 98 [some (.ref r0), some (.int x1)] [.ref w0] σ Q := by
  refine r_g (pc' := 99) (ls' := [some (.ref r0), some (.int x1)]) (st' := [.ref r0, .ref w0]) dX6_run_98 (fun _ => rfl) ?_
  obtain ⟨hK, h⟩ := h
  refine r_getI dX6_run_99 rfl (by decide) rfl hK ?_
  refine r_g (pc' := 103) (ls' := [some (.ref r0), some (.int x1)]) (st' := [.int x1, .int (zI σ r0 3), .ref w0]) dX6_run_102 (fun _ => rfl) ?_
  obtain ⟨hK, h⟩ := h
  exact r_call (th := false) dX6_run_103 (fun _ => ex_calV rfl (by decide)) rfl (Nat.le_of_ble_eq_true rfl) (Nat.le_of_ble_eq_true rfl) (Nat.le_of_ble_eq_true rfl) (rcv0 rfl rfl (by decide) hK) rfl rfl rfl (fun q => nomatch q) h
theorem b73_106 {g : Nat → Nat} {C S : Nat} {σ : PS} {Q : Rs → PS → Prop} {r0 : Nat} {x1 : Int32}
    (h : WP g C S 73 79 [some (.ref r0), some (.int (x1 + 1))] [] σ Q) :
    WP g C S 73 106 [some (.ref r0), some (.int x1)] [] σ Q := by
  refine r_inc (v := 1) (ls' := [some (.ref r0), some (.int (x1 + 1))]) dX6_run_106 rfl (Nat.le_of_ble_eq_true rfl) (by decide) rfl ?_
  refine r_goto (t := 79) dX6_run_109 (by decide) ?_
  exact h
theorem b73_119 {g : Nat → Nat} {C S : Nat} {σ : PS} {Q : Rs → PS → Prop} {r0 : Nat} {l1 : Option Value}
    (h : zK σ r0 = 8 ∧ ∃ b1, zP σ r0 4 = some b1 ∧ (zK σ b1 = 3 ∧ WP g C S 6 0 [some (.ref b1)] [] σ (KK g C S 73 126 [some (.ref r0), l1] [] Q false))) :
    WP g C S 73 119 [some (.ref r0), l1] [] σ Q := by
  refine r_g (pc' := 120) (ls' := [some (.ref r0), l1]) (st' := [.ref r0]) dX6_run_119 (fun _ => rfl) ?_
  obtain ⟨hK, b1, hP, h⟩ := h
  refine r_getP dX6_run_120 rfl (by decide) rfl hK hP ?_
  obtain ⟨hK, h⟩ := h
  exact r_call (th := false) dX6_run_123 (fun _ => ex_calV rfl (by decide)) rfl (Nat.le_of_ble_eq_true rfl) (Nat.le_of_ble_eq_true rfl) (Nat.le_of_ble_eq_true rfl) (rcv0 rfl rfl (by decide) hK) rfl rfl rfl (fun q => nomatch q) h
theorem b73_126 {g : Nat → Nat} {C S : Nat} {σ : PS} {Q : Rs → PS → Prop} {l0 : Option Value} {l1 : Option Value} {u0 : Int32}
    (h : Q (Sum.inl (some (.int u0))) σ) :
    WP g C S 73 126 [l0, l1] [.int u0] σ Q := by
  exact r_ret dX6_run_126 rfl h
theorem b74_0 {g : Nat → Nat} {C S : Nat} {σ : PS} {Q : Rs → PS → Prop} {r0 : Nat} {x1 : Int32}
    (h : zK σ r0 = 8 ∧ WP g C S 82 0 [some (.ref r0), some (.int x1)] [] σ (KK g C S 74 5 [some (.ref r0), some (.int x1)] [] Q true)) :
    WP g C S 74 0 [some (.ref r0), some (.int x1)] [] σ Q := by
  refine r_g (pc' := 1) (ls' := [some (.ref r0), some (.int x1)]) (st' := [.ref r0]) dX6_row_0 (fun _ => rfl) ?_
  refine r_g (pc' := 2) (ls' := [some (.ref r0), some (.int x1)]) (st' := [.int x1, .ref r0]) dX6_row_1 (fun _ => rfl) ?_
  obtain ⟨hK, h⟩ := h
  exact r_call (th := true) dX6_row_2 (fun _ => ex_calV rfl (by decide)) rfl (Nat.le_of_ble_eq_true rfl) (Nat.le_of_ble_eq_true rfl) (Nat.le_of_ble_eq_true rfl) (rcv0 rfl rfl (by decide) hK) rfl rfl rfl (fun _ => ⟨by decide, by decide⟩) h
theorem b74_5 {g : Nat → Nat} {C S : Nat} {σ : PS} {Q : Rs → PS → Prop} {l0 : Option Value} {l1 : Option Value} {w0 : Nat}
    (h : zK σ w0 = 6 ∧ ∃ b1, zP σ w0 0 = some b1 ∧ (zK σ b1 = 2 ∧ Q (Sum.inl (some (.int (zI σ b1 0)))) σ)) :
    WP g C S 74 5 [l0, l1] [.ref w0] σ Q := by
  obtain ⟨hK, b1, hP, h⟩ := h
  refine r_getP dX6_row_5 rfl (by decide) rfl hK hP ?_
  obtain ⟨hK, h⟩ := h
  refine r_getI dX6_row_8 rfl (by decide) rfl hK ?_
  exact r_ret dX6_row_11 rfl h
theorem b75_0 {g : Nat → Nat} {C S : Nat} {σ : PS} {Q : Rs → PS → Prop} {r0 : Nat} {x1 : Int32}
    (h : zK σ r0 = 8 ∧ WP g C S 82 0 [some (.ref r0), some (.int x1)] [] σ (KK g C S 75 5 [some (.ref r0), some (.int x1)] [] Q true)) :
    WP g C S 75 0 [some (.ref r0), some (.int x1)] [] σ Q := by
  refine r_g (pc' := 1) (ls' := [some (.ref r0), some (.int x1)]) (st' := [.ref r0]) dX6_letter_0 (fun _ => rfl) ?_
  refine r_g (pc' := 2) (ls' := [some (.ref r0), some (.int x1)]) (st' := [.int x1, .ref r0]) dX6_letter_1 (fun _ => rfl) ?_
  obtain ⟨hK, h⟩ := h
  exact r_call (th := true) dX6_letter_2 (fun _ => ex_calV rfl (by decide)) rfl (Nat.le_of_ble_eq_true rfl) (Nat.le_of_ble_eq_true rfl) (Nat.le_of_ble_eq_true rfl) (rcv0 rfl rfl (by decide) hK) rfl rfl rfl (fun _ => ⟨by decide, by decide⟩) h
theorem b75_5 {g : Nat → Nat} {C S : Nat} {σ : PS} {Q : Rs → PS → Prop} {l0 : Option Value} {l1 : Option Value} {w0 : Nat}
    (h : zK σ w0 = 6 ∧ Q (Sum.inl (some (.int (zI σ w0 6)))) σ) :
    WP g C S 75 5 [l0, l1] [.ref w0] σ Q := by
  obtain ⟨hK, h⟩ := h
  refine r_getI dX6_letter_5 rfl (by decide) rfl hK ?_
  exact r_ret dX6_letter_8 rfl h
theorem b76_0 {g : Nat → Nat} {C S : Nat} {σ : PS} {Q : Rs → PS → Prop} {r0 : Nat} {x1 : Int32} {x2 : Int32} {x3 : Int32}
    (h : zK σ r0 = 8 ∧ ∃ b1, zP σ r0 6 = some b1 ∧ (zK σ r0 = 8 ∧ WP g C S 81 0 [some (.ref r0), some (.int x1)] [] σ (KK g C S 76 9 [some (.ref r0), some (.int x1), some (.int x2), some (.int x3)] [.ref b1] Q true))) :
    WP g C S 76 0 [some (.ref r0), some (.int x1), some (.int x2), some (.int x3)] [] σ Q := by
  refine r_g (pc' := 1) (ls' := [some (.ref r0), some (.int x1), some (.int x2), some (.int x3)]) (st' := [.ref r0]) dX6_initials_0 (fun _ => rfl) ?_
  obtain ⟨hK, b1, hP, h⟩ := h
  refine r_getP dX6_initials_1 rfl (by decide) rfl hK hP ?_
  refine r_g (pc' := 5) (ls' := [some (.ref r0), some (.int x1), some (.int x2), some (.int x3)]) (st' := [.ref r0, .ref b1]) dX6_initials_4 (fun _ => rfl) ?_
  refine r_g (pc' := 6) (ls' := [some (.ref r0), some (.int x1), some (.int x2), some (.int x3)]) (st' := [.int x1, .ref r0, .ref b1]) dX6_initials_5 (fun _ => rfl) ?_
  obtain ⟨hK, h⟩ := h
  exact r_call (th := true) dX6_initials_6 (fun _ => ex_calV rfl (by decide)) rfl (Nat.le_of_ble_eq_true rfl) (Nat.le_of_ble_eq_true rfl) (Nat.le_of_ble_eq_true rfl) (rcv0 rfl rfl (by decide) hK) rfl rfl rfl (fun _ => ⟨by decide, by decide⟩) h
theorem b76_9 {g : Nat → Nat} {C S : Nat} {σ : PS} {Q : Rs → PS → Prop} {r0 : Nat} {l1 : Option Value} {x2 : Int32} {x3 : Int32} {w0 : Nat} {w1 : Nat}
    (h : zK σ w0 = 2 ∧ WP g C S 3 0 [some (.ref w0), some (.int 0), none, none, none, none] [] σ (KK g C S 76 13 [some (.ref r0), l1, some (.int x2), some (.int x3)] [.ref w1] Q false)) :
    WP g C S 76 9 [some (.ref r0), l1, some (.int x2), some (.int x3)] [.ref w0, .ref w1] σ Q := by
  refine r_ic (v := 0) dX6_initials_9 (by decide) ?_
  obtain ⟨hK, h⟩ := h
  exact r_call (th := false) dX6_initials_10 (fun _ => ex_calV rfl (by decide)) rfl (Nat.le_of_ble_eq_true rfl) (Nat.le_of_ble_eq_true rfl) (Nat.le_of_ble_eq_true rfl) (rcv0 rfl rfl (by decide) hK) rfl rfl rfl (fun q => nomatch q) h
theorem b76_13 {g : Nat → Nat} {C S : Nat} {σ : PS} {Q : Rs → PS → Prop} {r0 : Nat} {l1 : Option Value} {x2 : Int32} {x3 : Int32} {w0 : Nat} {w1 : Nat}
    (h : zK σ w1 = 5 ∧ WP g C S 20 0 [some (.ref w1), some (.ref w0), none, none, none] [] σ (KK g C S 76 16 [some (.ref r0), l1, some (.int x2), some (.int x3)] [] Q false)) :
    WP g C S 76 13 [some (.ref r0), l1, some (.int x2), some (.int x3)] [.ref w0, .ref w1] σ Q := by
  obtain ⟨hK, h⟩ := h
  exact r_call (th := false) dX6_initials_13 (fun _ => ex_calV rfl (by decide)) rfl (Nat.le_of_ble_eq_true rfl) (Nat.le_of_ble_eq_true rfl) (Nat.le_of_ble_eq_true rfl) (rcv0 rfl rfl (by decide) hK) rfl rfl rfl (fun q => nomatch q) h
theorem b76_16 {g : Nat → Nat} {C S : Nat} {σ : PS} {Q : Rs → PS → Prop} {r0 : Nat} {l1 : Option Value} {x2 : Int32} {x3 : Int32}
    (h : ((x2 : Int32) < 0 → WP g C S 76 31 [some (.ref r0), l1, some (.int x2), some (.int x3)] [] σ Q) ∧ (¬ ((x2 : Int32) < 0) → zK σ r0 = 8 ∧ ∃ b1, zP σ r0 6 = some b1 ∧ (zK σ b1 = 5 ∧ WP g C S 19 0 [some (.ref b1)] [] σ (KK g C S 76 28 [some (.ref r0), l1, some (.int x2), some (.int x3)] [.int x2] Q false)))) :
    WP g C S 76 16 [some (.ref r0), l1, some (.int x2), some (.int x3)] [] σ Q := by
  refine r_g (pc' := 17) (ls' := [some (.ref r0), l1, some (.int x2), some (.int x3)]) (st' := [.int x2]) dX6_initials_16 (fun _ => rfl) ?_
  obtain ⟨h1, h2⟩ := h
  refine r_if (t := 31) dX6_initials_17 (by decide) c_lt (fun c => ?_) (fun c => ?_)
  · have h := h1 c
    exact h
  · have h := h2 c
    refine r_g (pc' := 21) (ls' := [some (.ref r0), l1, some (.int x2), some (.int x3)]) (st' := [.int x2]) dX6_initials_20 (fun _ => rfl) ?_
    refine r_g (pc' := 22) (ls' := [some (.ref r0), l1, some (.int x2), some (.int x3)]) (st' := [.ref r0, .int x2]) dX6_initials_21 (fun _ => rfl) ?_
    obtain ⟨hK, b1, hP, h⟩ := h
    refine r_getP dX6_initials_22 rfl (by decide) rfl hK hP ?_
    obtain ⟨hK, h⟩ := h
    exact r_call (th := false) dX6_initials_25 (fun _ => ex_calV rfl (by decide)) rfl (Nat.le_of_ble_eq_true rfl) (Nat.le_of_ble_eq_true rfl) (Nat.le_of_ble_eq_true rfl) (rcv0 rfl rfl (by decide) hK) rfl rfl rfl (fun q => nomatch q) h
theorem b76_28 {g : Nat → Nat} {C S : Nat} {σ : PS} {Q : Rs → PS → Prop} {r0 : Nat} {l1 : Option Value} {x2 : Int32} {x3 : Int32} {u0 : Int32} {u1 : Int32}
    (h : ((u1 : Int32) < u0 → zK σ r0 = 8 ∧ ∃ b1, zP σ r0 7 = some b1 ∧ (zK σ b1 = 7 ∧ WP g C S 53 0 [some (.ref b1)] [] σ (KK g C S 76 48 [some (.ref r0), l1, some (.int x2), some (.int x3)] [] Q false))) ∧ (¬ ((u1 : Int32) < u0) → WP g C S 76 31 [some (.ref r0), l1, some (.int x2), some (.int x3)] [] σ Q)) :
    WP g C S 76 28 [some (.ref r0), l1, some (.int x2), some (.int x3)] [.int u0, .int u1] σ Q := by
  obtain ⟨h1, h2⟩ := h
  refine r_icmp (t := 41) dX6_initials_28 (by decide) c_lt (fun c => ?_) (fun c => ?_)
  · have h := h1 c
    refine r_g (pc' := 42) (ls' := [some (.ref r0), l1, some (.int x2), some (.int x3)]) (st' := [.ref r0]) dX6_initials_41 (fun _ => rfl) ?_
    obtain ⟨hK, b1, hP, h⟩ := h
    refine r_getP dX6_initials_42 rfl (by decide) rfl hK hP ?_
    obtain ⟨hK, h⟩ := h
    exact r_call (th := false) dX6_initials_45 (fun _ => ex_calV rfl (by decide)) rfl (Nat.le_of_ble_eq_true rfl) (Nat.le_of_ble_eq_true rfl) (Nat.le_of_ble_eq_true rfl) (rcv0 rfl rfl (by decide) hK) rfl rfl rfl (fun q => nomatch q) h
  · have h := h2 c
    exact h
theorem b76_31 {g : Nat → Nat} {C S : Nat} {σ : PS} {Q : Rs → PS → Prop} {l0 : Option Value} {l1 : Option Value} {l2 : Option Value} {l3 : Option Value}
    (h : (zN σ + 1 ≤ C ∧ zS σ + 6 ≤ S) ∧ Q (Sum.inr 1) σ) :
    WP g C S 76 31 [l0, l1, l2, l3] [] σ Q := by
  exact r_thr rfl (Nat.le_of_ble_eq_true rfl) (Nat.le_of_ble_eq_true rfl) (Nat.le_of_ble_eq_true rfl) h.1.1 h.1.2 h.2
theorem b76_48 {g : Nat → Nat} {C S : Nat} {σ : PS} {Q : Rs → PS → Prop} {r0 : Nat} {l1 : Option Value} {x2 : Int32} {x3 : Int32}
    (h : zK σ r0 = 8 ∧ ∃ b1, zP σ r0 6 = some b1 ∧ (zK σ r0 = 8 ∧ ∃ b2, zP σ r0 7 = some b2 ∧ (zK σ b1 = 5 ∧ WP g C S 33 0 [some (.ref b1), some (.int x2), some (.ref b2), none, none] [] σ (KK g C S 76 60 [some (.ref r0), l1, some (.int x2), some (.int x3)] [] Q false)))) :
    WP g C S 76 48 [some (.ref r0), l1, some (.int x2), some (.int x3)] [] σ Q := by
  refine r_g (pc' := 49) (ls' := [some (.ref r0), l1, some (.int x2), some (.int x3)]) (st' := [.ref r0]) dX6_initials_48 (fun _ => rfl) ?_
  obtain ⟨hK, b1, hP, h⟩ := h
  refine r_getP dX6_initials_49 rfl (by decide) rfl hK hP ?_
  refine r_g (pc' := 53) (ls' := [some (.ref r0), l1, some (.int x2), some (.int x3)]) (st' := [.int x2, .ref b1]) dX6_initials_52 (fun _ => rfl) ?_
  refine r_g (pc' := 54) (ls' := [some (.ref r0), l1, some (.int x2), some (.int x3)]) (st' := [.ref r0, .int x2, .ref b1]) dX6_initials_53 (fun _ => rfl) ?_
  obtain ⟨hK, b2, hP, h⟩ := h
  refine r_getP dX6_initials_54 rfl (by decide) rfl hK hP ?_
  obtain ⟨hK, h⟩ := h
  exact r_call (th := false) dX6_initials_57 (fun _ => ex_calV rfl (by decide)) rfl (Nat.le_of_ble_eq_true rfl) (Nat.le_of_ble_eq_true rfl) (Nat.le_of_ble_eq_true rfl) (rcv0 rfl rfl (by decide) hK) rfl rfl rfl (fun q => nomatch q) h
theorem b76_60 {g : Nat → Nat} {C S : Nat} {σ : PS} {Q : Rs → PS → Prop} {r0 : Nat} {l1 : Option Value} {l2 : Option Value} {x3 : Int32}
    (h : (¬ (x3 : Int32) = (-1) → zK σ r0 = 8 ∧ ∃ b1, zP σ r0 7 = some b1 ∧ (WP g C S 85 0 [some (.ref b1), some (.int x3)] [] σ (KK g C S 76 83 [some (.ref r0), l1, l2, some (.int x3)] [] Q true))) ∧ (¬ (¬ (x3 : Int32) = (-1)) → zK σ r0 = 8 ∧ ∃ b2, zP σ r0 7 = some b2 ∧ (zK σ b2 = 7 ∧ WP g C S 54 0 [some (.ref b2)] [] σ (KK g C S 76 72 [some (.ref r0), l1, l2, some (.int x3)] [] Q false)))) :
    WP g C S 76 60 [some (.ref r0), l1, l2, some (.int x3)] [] σ Q := by
  refine r_g (pc' := 61) (ls' := [some (.ref r0), l1, l2, some (.int x3)]) (st' := [.int x3]) dX6_initials_60 (fun _ => rfl) ?_
  refine r_ic (v := -1) dX6_initials_61 (by decide) ?_
  obtain ⟨h1, h2⟩ := h
  refine r_icmp (t := 75) dX6_initials_62 (by decide) c_ne (fun c => ?_) (fun c => ?_)
  · have h := h1 c
    refine r_g (pc' := 76) (ls' := [some (.ref r0), l1, l2, some (.int x3)]) (st' := [.ref r0]) dX6_initials_75 (fun _ => rfl) ?_
    obtain ⟨hK, b1, hP, h⟩ := h
    refine r_getP dX6_initials_76 rfl (by decide) rfl hK hP ?_
    refine r_g (pc' := 80) (ls' := [some (.ref r0), l1, l2, some (.int x3)]) (st' := [.int x3, .ref b1]) dX6_initials_79 (fun _ => rfl) ?_
    exact r_call (th := true) dX6_initials_80 (fun _ => ex_calS rfl (by decide)) rfl (Nat.le_of_ble_eq_true rfl) (Nat.le_of_ble_eq_true rfl) (Nat.le_of_ble_eq_true rfl) rfl rfl rfl rfl (fun _ => ⟨by decide, by decide⟩) h
  · have h := h2 c
    refine r_g (pc' := 66) (ls' := [some (.ref r0), l1, l2, some (.int x3)]) (st' := [.ref r0]) dX6_initials_65 (fun _ => rfl) ?_
    obtain ⟨hK, b2, hP, h⟩ := h
    refine r_getP dX6_initials_66 rfl (by decide) rfl hK hP ?_
    obtain ⟨hK, h⟩ := h
    exact r_call (th := false) dX6_initials_69 (fun _ => ex_calV rfl (by decide)) rfl (Nat.le_of_ble_eq_true rfl) (Nat.le_of_ble_eq_true rfl) (Nat.le_of_ble_eq_true rfl) (rcv0 rfl rfl (by decide) hK) rfl rfl rfl (fun q => nomatch q) h
theorem b76_72 {g : Nat → Nat} {C S : Nat} {σ : PS} {Q : Rs → PS → Prop} {l0 : Option Value} {l1 : Option Value} {l2 : Option Value} {l3 : Option Value} {u0 : Int32}
    (h : WP g C S 76 83 [l0, l1, l2, l3] [.int u0] σ Q) :
    WP g C S 76 72 [l0, l1, l2, l3] [.int u0] σ Q := by
  refine r_goto (t := 83) dX6_initials_72 (by decide) ?_
  exact h
theorem b76_83 {g : Nat → Nat} {C S : Nat} {σ : PS} {Q : Rs → PS → Prop} {l0 : Option Value} {l1 : Option Value} {l2 : Option Value} {l3 : Option Value} {u0 : Int32}
    (h : Q (Sum.inl (some (.int u0))) σ) :
    WP g C S 76 83 [l0, l1, l2, l3] [.int u0] σ Q := by
  exact r_ret dX6_initials_83 rfl h
theorem b77_0 {g : Nat → Nat} {C S : Nat} {σ : PS} {Q : Rs → PS → Prop} {r0 : Nat} {x1 : Int32} {x2 : Int32}
    (h : (¬ (x1 : Int32) = (-1) → ((x1 : Int32) < 0 → WP g C S 77 37 [some (.ref r0), some (.int x1), some (.int x2)] [] σ Q) ∧ (¬ ((x1 : Int32) < 0) → zK σ r0 = 8 ∧ ∃ b1, zP σ r0 4 = some b1 ∧ (zK σ b1 = 3 ∧ ((zI σ b1 5 : Int32) ≤ x1 → WP g C S 77 37 [some (.ref r0), some (.int x1), some (.int x2)] [] σ Q) ∧ (¬ ((zI σ b1 5 : Int32) ≤ x1) → ((x2 : Int32) < 0 → WP g C S 77 37 [some (.ref r0), some (.int x1), some (.int x2)] [] σ Q) ∧ (¬ ((x2 : Int32) < 0) → ((x2 : Int32) ≤ 1 → (¬ (x2 : Int32) = 0 → zK σ r0 = 8 ∧ ∃ b2, zP σ r0 4 = some b2 ∧ (zK σ b2 = 3 ∧ ∃ b3, zP σ b2 4 = some b3 ∧ (∃ n4 : Nat, x1 = nI n4 ∧ n4 < 2147483648 ∧ (zK σ b3 = 101 ∨ zK σ b3 = 1002) ∧ n4 < zL σ b3 ∧ (WP g C S 77 72 [some (.ref r0), some (.int x1), some (.int x2)] [.int (zI σ b3 n4)] σ Q)))) ∧ (¬ (¬ (x2 : Int32) = 0) → zK σ r0 = 8 ∧ ∃ b5, zP σ r0 4 = some b5 ∧ (zK σ b5 = 3 ∧ ∃ b6, zP σ b5 3 = some b6 ∧ (∃ n7 : Nat, x1 = nI n7 ∧ n7 < 2147483648 ∧ (zK σ b6 = 101 ∨ zK σ b6 = 1002) ∧ n7 < zL σ b6 ∧ (WP g C S 77 72 [some (.ref r0), some (.int x1), some (.int x2)] [.int (zI σ b6 n7)] σ Q))))) ∧ (¬ ((x2 : Int32) ≤ 1) → WP g C S 77 37 [some (.ref r0), some (.int x1), some (.int x2)] [] σ Q)))))) ∧ (¬ (¬ (x1 : Int32) = (-1)) → zK σ r0 = 8 ∧ ∃ b8, zP σ r0 4 = some b8 ∧ (zK σ b8 = 3 ∧ Q (Sum.inl (some (.int (zI σ b8 5)))) σ))) :
    WP g C S 77 0 [some (.ref r0), some (.int x1), some (.int x2)] [] σ Q := by
  refine r_g (pc' := 1) (ls' := [some (.ref r0), some (.int x1), some (.int x2)]) (st' := [.int x1]) dX6_missing_0 (fun _ => rfl) ?_
  refine r_ic (v := -1) dX6_missing_1 (by decide) ?_
  obtain ⟨h1, h2⟩ := h
  refine r_icmp (t := 13) dX6_missing_2 (by decide) c_ne (fun c => ?_) (fun c => ?_)
  · have h := h1 c
    refine r_g (pc' := 14) (ls' := [some (.ref r0), some (.int x1), some (.int x2)]) (st' := [.int x1]) dX6_missing_13 (fun _ => rfl) ?_
    obtain ⟨h1, h2⟩ := h
    refine r_if (t := 37) dX6_missing_14 (by decide) c_lt (fun c => ?_) (fun c => ?_)
    · have h := h1 c
      exact h
    · have h := h2 c
      refine r_g (pc' := 18) (ls' := [some (.ref r0), some (.int x1), some (.int x2)]) (st' := [.int x1]) dX6_missing_17 (fun _ => rfl) ?_
      refine r_g (pc' := 19) (ls' := [some (.ref r0), some (.int x1), some (.int x2)]) (st' := [.ref r0, .int x1]) dX6_missing_18 (fun _ => rfl) ?_
      obtain ⟨hK, b1, hP, h⟩ := h
      refine r_getP dX6_missing_19 rfl (by decide) rfl hK hP ?_
      obtain ⟨hK, h⟩ := h
      refine r_getI dX6_missing_22 rfl (by decide) rfl hK ?_
      obtain ⟨h1, h2⟩ := h
      refine r_icmp (t := 37) dX6_missing_25 (by decide) c_ge (fun c => ?_) (fun c => ?_)
      · have h := h1 c
        exact h
      · have h := h2 c
        refine r_g (pc' := 29) (ls' := [some (.ref r0), some (.int x1), some (.int x2)]) (st' := [.int x2]) dX6_missing_28 (fun _ => rfl) ?_
        obtain ⟨h1, h2⟩ := h
        refine r_if (t := 37) dX6_missing_29 (by decide) c_lt (fun c => ?_) (fun c => ?_)
        · have h := h1 c
          exact h
        · have h := h2 c
          refine r_g (pc' := 33) (ls' := [some (.ref r0), some (.int x1), some (.int x2)]) (st' := [.int x2]) dX6_missing_32 (fun _ => rfl) ?_
          refine r_ic (v := 1) dX6_missing_33 (by decide) ?_
          obtain ⟨h1, h2⟩ := h
          refine r_icmp (t := 47) dX6_missing_34 (by decide) c_le (fun c => ?_) (fun c => ?_)
          · have h := h1 c
            refine r_g (pc' := 48) (ls' := [some (.ref r0), some (.int x1), some (.int x2)]) (st' := [.int x2]) dX6_missing_47 (fun _ => rfl) ?_
            obtain ⟨h1, h2⟩ := h
            refine r_if (t := 63) dX6_missing_48 (by decide) c_ne (fun c => ?_) (fun c => ?_)
            · have h := h1 c
              refine r_g (pc' := 64) (ls' := [some (.ref r0), some (.int x1), some (.int x2)]) (st' := [.ref r0]) dX6_missing_63 (fun _ => rfl) ?_
              obtain ⟨hK, b2, hP, h⟩ := h
              refine r_getP dX6_missing_64 rfl (by decide) rfl hK hP ?_
              obtain ⟨hK, b3, hP, h⟩ := h
              refine r_getP dX6_missing_67 rfl (by decide) rfl hK hP ?_
              refine r_g (pc' := 71) (ls' := [some (.ref r0), some (.int x1), some (.int x2)]) (st' := [.int x1, .ref b3]) dX6_missing_70 (fun _ => rfl) ?_
              obtain ⟨n4, hj, hn, hK, hL, h⟩ := h
              refine r_iald dX6_missing_71 hj hn hK hL ?_
              exact h
            · have h := h2 c
              refine r_g (pc' := 52) (ls' := [some (.ref r0), some (.int x1), some (.int x2)]) (st' := [.ref r0]) dX6_missing_51 (fun _ => rfl) ?_
              obtain ⟨hK, b5, hP, h⟩ := h
              refine r_getP dX6_missing_52 rfl (by decide) rfl hK hP ?_
              obtain ⟨hK, b6, hP, h⟩ := h
              refine r_getP dX6_missing_55 rfl (by decide) rfl hK hP ?_
              refine r_g (pc' := 59) (ls' := [some (.ref r0), some (.int x1), some (.int x2)]) (st' := [.int x1, .ref b6]) dX6_missing_58 (fun _ => rfl) ?_
              obtain ⟨n7, hj, hn, hK, hL, h⟩ := h
              refine r_iald dX6_missing_59 hj hn hK hL ?_
              refine r_goto (t := 72) dX6_missing_60 (by decide) ?_
              exact h
          · have h := h2 c
            exact h
  · have h := h2 c
    refine r_g (pc' := 6) (ls' := [some (.ref r0), some (.int x1), some (.int x2)]) (st' := [.ref r0]) dX6_missing_5 (fun _ => rfl) ?_
    obtain ⟨hK, b8, hP, h⟩ := h
    refine r_getP dX6_missing_6 rfl (by decide) rfl hK hP ?_
    obtain ⟨hK, h⟩ := h
    refine r_getI dX6_missing_9 rfl (by decide) rfl hK ?_
    exact r_ret dX6_missing_12 rfl h
theorem b77_37 {g : Nat → Nat} {C S : Nat} {σ : PS} {Q : Rs → PS → Prop} {l0 : Option Value} {l1 : Option Value} {l2 : Option Value}
    (h : (zN σ + 1 ≤ C ∧ zS σ + 6 ≤ S) ∧ Q (Sum.inr 1) σ) :
    WP g C S 77 37 [l0, l1, l2] [] σ Q := by
  exact r_thr rfl (Nat.le_of_ble_eq_true rfl) (Nat.le_of_ble_eq_true rfl) (Nat.le_of_ble_eq_true rfl) h.1.1 h.1.2 h.2
theorem b77_72 {g : Nat → Nat} {C S : Nat} {σ : PS} {Q : Rs → PS → Prop} {l0 : Option Value} {l1 : Option Value} {l2 : Option Value} {u0 : Int32}
    (h : Q (Sum.inl (some (.int u0))) σ) :
    WP g C S 77 72 [l0, l1, l2] [.int u0] σ Q := by
  exact r_ret dX6_missing_72 rfl h
theorem b78_0 {g : Nat → Nat} {C S : Nat} {σ : PS} {Q : Rs → PS → Prop} {r0 : Nat} {x1 : Int32} {l2 : Option Value}
    (h : (¬ (x1 : Int32) = (-1) → zK σ r0 = 8 ∧ WP g C S 82 0 [some (.ref r0), some (.int x1)] [] σ (KK g C S 78 17 [some (.ref r0), some (.int x1), l2] [] Q true)) ∧ (¬ (¬ (x1 : Int32) = (-1)) → zK σ r0 = 8 ∧ WP g C S 84 0 [some (.ref r0)] [] σ (KK g C S 78 9 [some (.ref r0), some (.int x1), l2] [] Q true))) :
    WP g C S 78 0 [some (.ref r0), some (.int x1), l2] [] σ Q := by
  refine r_g (pc' := 1) (ls' := [some (.ref r0), some (.int x1), l2]) (st' := [.int x1]) dX6_print_0 (fun _ => rfl) ?_
  refine r_ic (v := -1) dX6_print_1 (by decide) ?_
  obtain ⟨h1, h2⟩ := h
  refine r_icmp (t := 12) dX6_print_2 (by decide) c_ne (fun c => ?_) (fun c => ?_)
  · have h := h1 c
    refine r_g (pc' := 13) (ls' := [some (.ref r0), some (.int x1), l2]) (st' := [.ref r0]) dX6_print_12 (fun _ => rfl) ?_
    refine r_g (pc' := 14) (ls' := [some (.ref r0), some (.int x1), l2]) (st' := [.int x1, .ref r0]) dX6_print_13 (fun _ => rfl) ?_
    obtain ⟨hK, h⟩ := h
    exact r_call (th := true) dX6_print_14 (fun _ => ex_calV rfl (by decide)) rfl (Nat.le_of_ble_eq_true rfl) (Nat.le_of_ble_eq_true rfl) (Nat.le_of_ble_eq_true rfl) (rcv0 rfl rfl (by decide) hK) rfl rfl rfl (fun _ => ⟨by decide, by decide⟩) h
  · have h := h2 c
    refine r_g (pc' := 6) (ls' := [some (.ref r0), some (.int x1), l2]) (st' := [.ref r0]) dX6_print_5 (fun _ => rfl) ?_
    obtain ⟨hK, h⟩ := h
    exact r_call (th := true) dX6_print_6 (fun _ => ex_calV rfl (by decide)) rfl (Nat.le_of_ble_eq_true rfl) (Nat.le_of_ble_eq_true rfl) (Nat.le_of_ble_eq_true rfl) (rcv0 rfl rfl (by decide) hK) rfl rfl rfl (fun _ => ⟨by decide, by decide⟩) h
theorem b78_9 {g : Nat → Nat} {C S : Nat} {σ : PS} {Q : Rs → PS → Prop} {r0 : Nat} {l1 : Option Value} {l2 : Option Value}
    (h : WP g C S 78 36 [some (.ref r0), l1, l2] [] σ Q) :
    WP g C S 78 9 [some (.ref r0), l1, l2] [] σ Q := by
  refine r_goto (t := 36) dX6_print_9 (by decide) ?_
  exact h
theorem b78_17 {g : Nat → Nat} {C S : Nat} {σ : PS} {Q : Rs → PS → Prop} {r0 : Nat} {l1 : Option Value} {l2 : Option Value} {w0 : Nat}
    (h : zK σ w0 = 6 ∧ ∃ b1, zP σ w0 7 = some b1 ∧ (zK σ r0 = 8 ∧ ∃ b2, zP σ r0 5 = some b2 ∧ (zK σ b2 = 7 ∧ WP g C S 53 0 [some (.ref b2)] [] σ (KK g C S 78 28 [some (.ref r0), (clr l1), some (.ref b1)] [] Q false)))) :
    WP g C S 78 17 [some (.ref r0), l1, l2] [.ref w0] σ Q := by
  obtain ⟨hK, b1, hP, h⟩ := h
  refine r_getP dX6_print_17 rfl (by decide) rfl hK hP ?_
  refine r_g (pc' := 21) (ls' := [some (.ref r0), (clr l1), some (.ref b1)]) (st' := []) dX6_print_20 (fun _ => rfl) ?_
  refine r_g (pc' := 22) (ls' := [some (.ref r0), (clr l1), some (.ref b1)]) (st' := [.ref r0]) dX6_print_21 (fun _ => rfl) ?_
  obtain ⟨hK, b2, hP, h⟩ := h
  refine r_getP dX6_print_22 rfl (by decide) rfl hK hP ?_
  obtain ⟨hK, h⟩ := h
  exact r_call (th := false) dX6_print_25 (fun _ => ex_calV rfl (by decide)) rfl (Nat.le_of_ble_eq_true rfl) (Nat.le_of_ble_eq_true rfl) (Nat.le_of_ble_eq_true rfl) (rcv0 rfl rfl (by decide) hK) rfl rfl rfl (fun q => nomatch q) h
theorem b78_28 {g : Nat → Nat} {C S : Nat} {σ : PS} {Q : Rs → PS → Prop} {r0 : Nat} {l1 : Option Value} {r2 : Nat}
    (h : zK σ r0 = 8 ∧ ∃ b1, zP σ r0 5 = some b1 ∧ (zK σ b1 = 7 ∧ WP g C S 60 0 [some (.ref b1), some (.ref r2)] [] σ (KK g C S 78 36 [some (.ref r0), l1, some (.ref r2)] [] Q false))) :
    WP g C S 78 28 [some (.ref r0), l1, some (.ref r2)] [] σ Q := by
  refine r_g (pc' := 29) (ls' := [some (.ref r0), l1, some (.ref r2)]) (st' := [.ref r0]) dX6_print_28 (fun _ => rfl) ?_
  obtain ⟨hK, b1, hP, h⟩ := h
  refine r_getP dX6_print_29 rfl (by decide) rfl hK hP ?_
  refine r_g (pc' := 33) (ls' := [some (.ref r0), l1, some (.ref r2)]) (st' := [.ref r2, .ref b1]) dX6_print_32 (fun _ => rfl) ?_
  obtain ⟨hK, h⟩ := h
  exact r_call (th := false) dX6_print_33 (fun _ => ex_calV rfl (by decide)) rfl (Nat.le_of_ble_eq_true rfl) (Nat.le_of_ble_eq_true rfl) (Nat.le_of_ble_eq_true rfl) (rcv0 rfl rfl (by decide) hK) rfl rfl rfl (fun q => nomatch q) h
theorem b78_36 {g : Nat → Nat} {C S : Nat} {σ : PS} {Q : Rs → PS → Prop} {r0 : Nat} {l1 : Option Value} {l2 : Option Value}
    (h : zK σ r0 = 8 ∧ ∃ b1, zP σ r0 5 = some b1 ∧ (zK σ b1 = 7 ∧ WP g C S 54 0 [some (.ref b1)] [] σ (KK g C S 78 43 [some (.ref r0), l1, l2] [] Q false))) :
    WP g C S 78 36 [some (.ref r0), l1, l2] [] σ Q := by
  refine r_g (pc' := 37) (ls' := [some (.ref r0), l1, l2]) (st' := [.ref r0]) dX6_print_36 (fun _ => rfl) ?_
  obtain ⟨hK, b1, hP, h⟩ := h
  refine r_getP dX6_print_37 rfl (by decide) rfl hK hP ?_
  obtain ⟨hK, h⟩ := h
  exact r_call (th := false) dX6_print_40 (fun _ => ex_calV rfl (by decide)) rfl (Nat.le_of_ble_eq_true rfl) (Nat.le_of_ble_eq_true rfl) (Nat.le_of_ble_eq_true rfl) (rcv0 rfl rfl (by decide) hK) rfl rfl rfl (fun q => nomatch q) h
theorem b78_43 {g : Nat → Nat} {C S : Nat} {σ : PS} {Q : Rs → PS → Prop} {l0 : Option Value} {l1 : Option Value} {l2 : Option Value} {u0 : Int32}
    (h : Q (Sum.inl (some (.int u0))) σ) :
    WP g C S 78 43 [l0, l1, l2] [.int u0] σ Q := by
  exact r_ret dX6_print_43 rfl h
theorem b79_0 {g : Nat → Nat} {C S : Nat} {σ : PS} {Q : Rs → PS → Prop} {r0 : Nat} {x1 : Int32}
    (h : zK σ r0 = 8 ∧ ∃ b1, zP σ r0 5 = some b1 ∧ (WP g C S 85 0 [some (.ref b1), some (.int x1)] [] σ (KK g C S 79 8 [some (.ref r0), some (.int x1)] [] Q true))) :
    WP g C S 79 0 [some (.ref r0), some (.int x1)] [] σ Q := by
  refine r_g (pc' := 1) (ls' := [some (.ref r0), some (.int x1)]) (st' := [.ref r0]) dX6_at_0 (fun _ => rfl) ?_
  obtain ⟨hK, b1, hP, h⟩ := h
  refine r_getP dX6_at_1 rfl (by decide) rfl hK hP ?_
  refine r_g (pc' := 5) (ls' := [some (.ref r0), some (.int x1)]) (st' := [.int x1, .ref b1]) dX6_at_4 (fun _ => rfl) ?_
  exact r_call (th := true) dX6_at_5 (fun _ => ex_calS rfl (by decide)) rfl (Nat.le_of_ble_eq_true rfl) (Nat.le_of_ble_eq_true rfl) (Nat.le_of_ble_eq_true rfl) rfl rfl rfl rfl (fun _ => ⟨by decide, by decide⟩) h
theorem b79_8 {g : Nat → Nat} {C S : Nat} {σ : PS} {Q : Rs → PS → Prop} {l0 : Option Value} {l1 : Option Value} {u0 : Int32}
    (h : Q (Sum.inl (some (.int u0))) σ) :
    WP g C S 79 8 [l0, l1] [.int u0] σ Q := by
  exact r_ret dX6_at_8 rfl h
theorem b80_0 {g : Nat → Nat} {C S : Nat} {σ : PS} {Q : Rs → PS → Prop} {r0 : Nat} {x1 : Int32} {l2 : Option Value} {l3 : Option Value} {l4 : Option Value}
    (h : WP g C S 80 4 [some (.ref r0), some (.int x1), some (.int 0), some (.int 0), l4] [] σ Q) :
    WP g C S 80 0 [some (.ref r0), some (.int x1), l2, l3, l4] [] σ Q := by
  refine r_ic (v := 0) dX6_twice_0 (by decide) ?_
  refine r_g (pc' := 2) (ls' := [some (.ref r0), some (.int x1), some (.int 0), l3, l4]) (st' := []) dX6_twice_1 (fun _ => rfl) ?_
  refine r_ic (v := 0) dX6_twice_2 (by decide) ?_
  refine r_g (pc' := 4) (ls' := [some (.ref r0), some (.int x1), some (.int 0), some (.int 0), l4]) (st' := []) dX6_twice_3 (fun _ => rfl) ?_
  exact h
theorem b80_4 {g : Nat → Nat} {C S : Nat} {σ : PS} {Q : Rs → PS → Prop} {r0 : Nat} {x1 : Int32} {x2 : Int32} {x3 : Int32} {l4 : Option Value}
    (h : zK σ r0 = 8 ∧ ∃ b1, zP σ r0 0 = some b1 ∧ (zK σ b1 = 1 ∧ WP g C S 161 0 [some (.ref b1)] [] σ (KK g C S 80 12 [some (.ref r0), some (.int x1), some (.int x2), some (.int x3), l4] [.int x3] Q false))) :
    WP g C S 80 4 [some (.ref r0), some (.int x1), some (.int x2), some (.int x3), l4] [] σ Q := by
  refine r_g (pc' := 5) (ls' := [some (.ref r0), some (.int x1), some (.int x2), some (.int x3), l4]) (st' := [.int x3]) dX6_twice_4 (fun _ => rfl) ?_
  refine r_g (pc' := 6) (ls' := [some (.ref r0), some (.int x1), some (.int x2), some (.int x3), l4]) (st' := [.ref r0, .int x3]) dX6_twice_5 (fun _ => rfl) ?_
  obtain ⟨hK, b1, hP, h⟩ := h
  refine r_getP dX6_twice_6 rfl (by decide) rfl hK hP ?_
  obtain ⟨hK, h⟩ := h
  exact r_call (th := false) dX6_twice_9 (fun _ => ex_calV rfl (by decide)) rfl (Nat.le_of_ble_eq_true rfl) (Nat.le_of_ble_eq_true rfl) (Nat.le_of_ble_eq_true rfl) (rcv0 rfl rfl (by decide) hK) rfl rfl rfl (fun q => nomatch q) h
theorem b80_12 {g : Nat → Nat} {C S : Nat} {σ : PS} {Q : Rs → PS → Prop} {r0 : Nat} {x1 : Int32} {x2 : Int32} {x3 : Int32} {l4 : Option Value} {u0 : Int32} {u1 : Int32}
    (h : ((u0 : Int32) ≤ u1 → ((x1 : Int32) = (-1) → Q (Sum.inl (some (.int x2))) σ) ∧ (¬ ((x1 : Int32) = (-1)) → (zN σ + 1 ≤ C ∧ zS σ + 6 ≤ S) ∧ Q (Sum.inr 1) σ)) ∧ (¬ ((u0 : Int32) ≤ u1) → zK σ r0 = 8 ∧ ∃ b1, zP σ r0 0 = some b1 ∧ (zK σ b1 = 1 ∧ WP g C S 163 0 [some (.ref b1), some (.int x3)] [] σ (KK g C S 80 23 [some (.ref r0), some (.int x1), some (.int x2), some (.int x3), l4] [] Q false)))) :
    WP g C S 80 12 [some (.ref r0), some (.int x1), some (.int x2), some (.int x3), l4] [.int u0, .int u1] σ Q := by
  obtain ⟨h1, h2⟩ := h
  refine r_icmp (t := 55) dX6_twice_12 (by decide) c_ge (fun c => ?_) (fun c => ?_)
  · have h := h1 c
    refine r_g (pc' := 56) (ls' := [some (.ref r0), some (.int x1), some (.int x2), some (.int x3), l4]) (st' := [.int x1]) dX6_twice_55 (fun _ => rfl) ?_
    refine r_ic (v := -1) dX6_twice_56 (by decide) ?_
    obtain ⟨h1, h2⟩ := h
    refine r_icmp (t := 70) dX6_twice_57 (by decide) c_eq (fun c => ?_) (fun c => ?_)
    · have h := h1 c
      refine r_g (pc' := 71) (ls' := [some (.ref r0), some (.int x1), some (.int x2), some (.int x3), l4]) (st' := [.int x2]) dX6_twice_70 (fun _ => rfl) ?_
      exact r_ret dX6_twice_71 rfl h
    · have h := h2 c
      exact r_thr rfl (Nat.le_of_ble_eq_true rfl) (Nat.le_of_ble_eq_true rfl) (Nat.le_of_ble_eq_true rfl) h.1.1 h.1.2 h.2
  · have h := h2 c
    refine r_g (pc' := 16) (ls' := [some (.ref r0), some (.int x1), some (.int x2), some (.int x3), l4]) (st' := [.ref r0]) dX6_twice_15 (fun _ => rfl) ?_
    obtain ⟨hK, b1, hP, h⟩ := h
    refine r_getP dX6_twice_16 rfl (by decide) rfl hK hP ?_
    refine r_g (pc' := 20) (ls' := [some (.ref r0), some (.int x1), some (.int x2), some (.int x3), l4]) (st' := [.int x3, .ref b1]) dX6_twice_19 (fun _ => rfl) ?_
    obtain ⟨hK, h⟩ := h
    exact r_call (th := false) dX6_twice_20 (fun _ => ex_calV rfl (by decide)) rfl (Nat.le_of_ble_eq_true rfl) (Nat.le_of_ble_eq_true rfl) (Nat.le_of_ble_eq_true rfl) (rcv0 rfl rfl (by decide) hK) rfl rfl rfl (fun q => nomatch q) h
theorem b80_23 {g : Nat → Nat} {C S : Nat} {σ : PS} {Q : Rs → PS → Prop} {r0 : Nat} {x1 : Int32} {x2 : Int32} {x3 : Int32} {l4 : Option Value} {w0 : Nat}
    (h : zK σ w0 = 2 ∧ zK σ r0 = 8 ∧ WP g C S 83 0 [some (.ref r0), some (.ref w0), none] [] σ (KK g C S 80 34 [some (.ref r0), some (.int x1), some (.int x2), some (.int x3), some (.ref w0)] [] Q true)) :
    WP g C S 80 23 [some (.ref r0), some (.int x1), some (.int x2), some (.int x3), l4] [.ref w0] σ Q := by
  obtain ⟨hK, h⟩ := h
  refine r_chk dX6_twice_23 rfl (Or.inl ⟨by decide, hK⟩) ?_
  refine r_g (pc' := 28) (ls' := [some (.ref r0), some (.int x1), some (.int x2), some (.int x3), some (.ref w0)]) (st' := []) dX6_twice_26 (fun _ => rfl) ?_
  refine r_g (pc' := 29) (ls' := [some (.ref r0), some (.int x1), some (.int x2), some (.int x3), some (.ref w0)]) (st' := [.ref r0]) dX6_twice_28 (fun _ => rfl) ?_
  refine r_g (pc' := 31) (ls' := [some (.ref r0), some (.int x1), some (.int x2), some (.int x3), some (.ref w0)]) (st' := [.ref w0, .ref r0]) dX6_twice_29 (fun _ => rfl) ?_
  obtain ⟨hK, h⟩ := h
  exact r_call (th := true) dX6_twice_31 (fun _ => ex_calV rfl (by decide)) rfl (Nat.le_of_ble_eq_true rfl) (Nat.le_of_ble_eq_true rfl) (Nat.le_of_ble_eq_true rfl) (rcv0 rfl rfl (by decide) hK) rfl rfl rfl (fun _ => ⟨by decide, by decide⟩) h
theorem b80_34 {g : Nat → Nat} {C S : Nat} {σ : PS} {Q : Rs → PS → Prop} {r0 : Nat} {x1 : Int32} {x2 : Int32} {x3 : Int32} {r4 : Nat} {w0 : Nat}
    (h : (w0 = r4 → WP g C S 80 49 [some (.ref r0), some (.int x1), some (.int x2), some (.int x3), some (.ref r4)] [] σ Q) ∧ (¬ (w0 = r4) → (¬ (x2 : Int32) = x1 → WP g C S 80 49 [some (.ref r0), some (.int x1), some (.int (x2 + 1)), some (.int x3), some (.ref r4)] [] σ Q) ∧ (¬ (¬ (x2 : Int32) = x1) → Q (Sum.inl (some (.int x3))) σ))) :
    WP g C S 80 34 [some (.ref r0), some (.int x1), some (.int x2), some (.int x3), some (.ref r4)] [.ref w0] σ Q := by
  refine r_g (pc' := 36) (ls' := [some (.ref r0), some (.int x1), some (.int x2), some (.int x3), some (.ref r4)]) (st' := [.ref r4, .ref w0]) dX6_twice_34 (fun _ => rfl) ?_
  obtain ⟨h1, h2⟩ := h
  refine r_aeq (t := 49) dX6_twice_36 (by decide) (fun c => ?_) (fun c => ?_)
  · have h := h1 c
    exact h
  · have h := h2 c
    refine r_g (pc' := 40) (ls' := [some (.ref r0), some (.int x1), some (.int x2), some (.int x3), some (.ref r4)]) (st' := [.int x2]) dX6_twice_39 (fun _ => rfl) ?_
    refine r_g (pc' := 41) (ls' := [some (.ref r0), some (.int x1), some (.int x2), some (.int x3), some (.ref r4)]) (st' := [.int x1, .int x2]) dX6_twice_40 (fun _ => rfl) ?_
    obtain ⟨h1, h2⟩ := h
    refine r_icmp (t := 46) dX6_twice_41 (by decide) c_ne (fun c => ?_) (fun c => ?_)
    · have h := h1 c
      refine r_inc (v := 1) (ls' := [some (.ref r0), some (.int x1), some (.int (x2 + 1)), some (.int x3), some (.ref r4)]) dX6_twice_46 rfl (Nat.le_of_ble_eq_true rfl) (by decide) rfl ?_
      exact h
    · have h := h2 c
      refine r_g (pc' := 45) (ls' := [some (.ref r0), some (.int x1), some (.int x2), some (.int x3), some (.ref r4)]) (st' := [.int x3]) dX6_twice_44 (fun _ => rfl) ?_
      exact r_ret dX6_twice_45 rfl h
theorem b80_49 {g : Nat → Nat} {C S : Nat} {σ : PS} {Q : Rs → PS → Prop} {r0 : Nat} {x1 : Int32} {x2 : Int32} {x3 : Int32} {l4 : Option Value}
    (h : WP g C S 80 4 [some (.ref r0), some (.int x1), some (.int x2), some (.int (x3 + 1)), l4] [] σ Q) :
    WP g C S 80 49 [some (.ref r0), some (.int x1), some (.int x2), some (.int x3), l4] [] σ Q := by
  refine r_inc (v := 1) (ls' := [some (.ref r0), some (.int x1), some (.int x2), some (.int (x3 + 1)), l4]) dX6_twice_49 rfl (Nat.le_of_ble_eq_true rfl) (by decide) rfl ?_
  refine r_goto (t := 4) dX6_twice_52 (by decide) ?_
  exact h
theorem b81_0 {g : Nat → Nat} {C S : Nat} {σ : PS} {Q : Rs → PS → Prop} {r0 : Nat} {x1 : Int32}
    (h : ((x1 : Int32) < 0 → WP g C S 81 15 [some (.ref r0), some (.int x1)] [] σ Q) ∧ (¬ ((x1 : Int32) < 0) → zK σ r0 = 8 ∧ ∃ b1, zP σ r0 0 = some b1 ∧ (zK σ b1 = 1 ∧ WP g C S 161 0 [some (.ref b1)] [] σ (KK g C S 81 12 [some (.ref r0), some (.int x1)] [.int x1] Q false)))) :
    WP g C S 81 0 [some (.ref r0), some (.int x1)] [] σ Q := by
  refine r_g (pc' := 1) (ls' := [some (.ref r0), some (.int x1)]) (st' := [.int x1]) dX6_entryNumbered_0 (fun _ => rfl) ?_
  obtain ⟨h1, h2⟩ := h
  refine r_if (t := 15) dX6_entryNumbered_1 (by decide) c_lt (fun c => ?_) (fun c => ?_)
  · have h := h1 c
    exact h
  · have h := h2 c
    refine r_g (pc' := 5) (ls' := [some (.ref r0), some (.int x1)]) (st' := [.int x1]) dX6_entryNumbered_4 (fun _ => rfl) ?_
    refine r_g (pc' := 6) (ls' := [some (.ref r0), some (.int x1)]) (st' := [.ref r0, .int x1]) dX6_entryNumbered_5 (fun _ => rfl) ?_
    obtain ⟨hK, b1, hP, h⟩ := h
    refine r_getP dX6_entryNumbered_6 rfl (by decide) rfl hK hP ?_
    obtain ⟨hK, h⟩ := h
    exact r_call (th := false) dX6_entryNumbered_9 (fun _ => ex_calV rfl (by decide)) rfl (Nat.le_of_ble_eq_true rfl) (Nat.le_of_ble_eq_true rfl) (Nat.le_of_ble_eq_true rfl) (rcv0 rfl rfl (by decide) hK) rfl rfl rfl (fun q => nomatch q) h
theorem b81_12 {g : Nat → Nat} {C S : Nat} {σ : PS} {Q : Rs → PS → Prop} {r0 : Nat} {x1 : Int32} {u0 : Int32} {u1 : Int32}
    (h : ((u1 : Int32) < u0 → zK σ r0 = 8 ∧ ∃ b1, zP σ r0 0 = some b1 ∧ (zK σ b1 = 1 ∧ WP g C S 163 0 [some (.ref b1), some (.int x1)] [] σ (KK g C S 81 33 [some (.ref r0), some (.int x1)] [] Q false))) ∧ (¬ ((u1 : Int32) < u0) → WP g C S 81 15 [some (.ref r0), some (.int x1)] [] σ Q)) :
    WP g C S 81 12 [some (.ref r0), some (.int x1)] [.int u0, .int u1] σ Q := by
  obtain ⟨h1, h2⟩ := h
  refine r_icmp (t := 25) dX6_entryNumbered_12 (by decide) c_lt (fun c => ?_) (fun c => ?_)
  · have h := h1 c
    refine r_g (pc' := 26) (ls' := [some (.ref r0), some (.int x1)]) (st' := [.ref r0]) dX6_entryNumbered_25 (fun _ => rfl) ?_
    obtain ⟨hK, b1, hP, h⟩ := h
    refine r_getP dX6_entryNumbered_26 rfl (by decide) rfl hK hP ?_
    refine r_g (pc' := 30) (ls' := [some (.ref r0), some (.int x1)]) (st' := [.int x1, .ref b1]) dX6_entryNumbered_29 (fun _ => rfl) ?_
    obtain ⟨hK, h⟩ := h
    exact r_call (th := false) dX6_entryNumbered_30 (fun _ => ex_calV rfl (by decide)) rfl (Nat.le_of_ble_eq_true rfl) (Nat.le_of_ble_eq_true rfl) (Nat.le_of_ble_eq_true rfl) (rcv0 rfl rfl (by decide) hK) rfl rfl rfl (fun q => nomatch q) h
  · have h := h2 c
    exact h
theorem b81_15 {g : Nat → Nat} {C S : Nat} {σ : PS} {Q : Rs → PS → Prop} {l0 : Option Value} {l1 : Option Value}
    (h : (zN σ + 1 ≤ C ∧ zS σ + 6 ≤ S) ∧ Q (Sum.inr 0) σ) :
    WP g C S 81 15 [l0, l1] [] σ Q := by
  exact r_thr rfl (Nat.le_of_ble_eq_true rfl) (Nat.le_of_ble_eq_true rfl) (Nat.le_of_ble_eq_true rfl) h.1.1 h.1.2 h.2
theorem b81_33 {g : Nat → Nat} {C S : Nat} {σ : PS} {Q : Rs → PS → Prop} {l0 : Option Value} {l1 : Option Value} {w0 : Nat}
    (h : zK σ w0 = 2 ∧ Q (Sum.inl (some (.ref w0))) σ) :
    WP g C S 81 33 [l0, l1] [.ref w0] σ Q := by
  obtain ⟨hK, h⟩ := h
  refine r_chk dX6_entryNumbered_33 rfl (Or.inl ⟨by decide, hK⟩) ?_
  exact r_aret dX6_entryNumbered_36 rfl h
theorem b82_0 {g : Nat → Nat} {C S : Nat} {σ : PS} {Q : Rs → PS → Prop} {r0 : Nat} {x1 : Int32}
    (h : ((x1 : Int32) < 0 → WP g C S 82 15 [some (.ref r0), some (.int x1)] [] σ Q) ∧ (¬ ((x1 : Int32) < 0) → zK σ r0 = 8 ∧ ∃ b1, zP σ r0 4 = some b1 ∧ (zK σ b1 = 3 ∧ WP g C S 6 0 [some (.ref b1)] [] σ (KK g C S 82 12 [some (.ref r0), some (.int x1)] [.int x1] Q false)))) :
    WP g C S 82 0 [some (.ref r0), some (.int x1)] [] σ Q := by
  refine r_g (pc' := 1) (ls' := [some (.ref r0), some (.int x1)]) (st' := [.int x1]) dX6_rowAt_0 (fun _ => rfl) ?_
  obtain ⟨h1, h2⟩ := h
  refine r_if (t := 15) dX6_rowAt_1 (by decide) c_lt (fun c => ?_) (fun c => ?_)
  · have h := h1 c
    exact h
  · have h := h2 c
    refine r_g (pc' := 5) (ls' := [some (.ref r0), some (.int x1)]) (st' := [.int x1]) dX6_rowAt_4 (fun _ => rfl) ?_
    refine r_g (pc' := 6) (ls' := [some (.ref r0), some (.int x1)]) (st' := [.ref r0, .int x1]) dX6_rowAt_5 (fun _ => rfl) ?_
    obtain ⟨hK, b1, hP, h⟩ := h
    refine r_getP dX6_rowAt_6 rfl (by decide) rfl hK hP ?_
    obtain ⟨hK, h⟩ := h
    exact r_call (th := false) dX6_rowAt_9 (fun _ => ex_calV rfl (by decide)) rfl (Nat.le_of_ble_eq_true rfl) (Nat.le_of_ble_eq_true rfl) (Nat.le_of_ble_eq_true rfl) (rcv0 rfl rfl (by decide) hK) rfl rfl rfl (fun q => nomatch q) h
theorem b82_12 {g : Nat → Nat} {C S : Nat} {σ : PS} {Q : Rs → PS → Prop} {r0 : Nat} {x1 : Int32} {u0 : Int32} {u1 : Int32}
    (h : ((u1 : Int32) < u0 → zK σ r0 = 8 ∧ ∃ b1, zP σ r0 4 = some b1 ∧ (zK σ b1 = 3 ∧ WP g C S 7 0 [some (.ref b1), some (.int x1)] [] σ (KK g C S 82 33 [some (.ref r0), some (.int x1)] [] Q false))) ∧ (¬ ((u1 : Int32) < u0) → WP g C S 82 15 [some (.ref r0), some (.int x1)] [] σ Q)) :
    WP g C S 82 12 [some (.ref r0), some (.int x1)] [.int u0, .int u1] σ Q := by
  obtain ⟨h1, h2⟩ := h
  refine r_icmp (t := 25) dX6_rowAt_12 (by decide) c_lt (fun c => ?_) (fun c => ?_)
  · have h := h1 c
    refine r_g (pc' := 26) (ls' := [some (.ref r0), some (.int x1)]) (st' := [.ref r0]) dX6_rowAt_25 (fun _ => rfl) ?_
    obtain ⟨hK, b1, hP, h⟩ := h
    refine r_getP dX6_rowAt_26 rfl (by decide) rfl hK hP ?_
    refine r_g (pc' := 30) (ls' := [some (.ref r0), some (.int x1)]) (st' := [.int x1, .ref b1]) dX6_rowAt_29 (fun _ => rfl) ?_
    obtain ⟨hK, h⟩ := h
    exact r_call (th := false) dX6_rowAt_30 (fun _ => ex_calV rfl (by decide)) rfl (Nat.le_of_ble_eq_true rfl) (Nat.le_of_ble_eq_true rfl) (Nat.le_of_ble_eq_true rfl) (rcv0 rfl rfl (by decide) hK) rfl rfl rfl (fun q => nomatch q) h
  · have h := h2 c
    exact h
theorem b82_15 {g : Nat → Nat} {C S : Nat} {σ : PS} {Q : Rs → PS → Prop} {l0 : Option Value} {l1 : Option Value}
    (h : (zN σ + 1 ≤ C ∧ zS σ + 6 ≤ S) ∧ Q (Sum.inr 1) σ) :
    WP g C S 82 15 [l0, l1] [] σ Q := by
  exact r_thr rfl (Nat.le_of_ble_eq_true rfl) (Nat.le_of_ble_eq_true rfl) (Nat.le_of_ble_eq_true rfl) h.1.1 h.1.2 h.2
theorem b82_33 {g : Nat → Nat} {C S : Nat} {σ : PS} {Q : Rs → PS → Prop} {l0 : Option Value} {l1 : Option Value} {w0 : Nat}
    (h : Q (Sum.inl (some (.ref w0))) σ) :
    WP g C S 82 33 [l0, l1] [.ref w0] σ Q := by
  exact r_aret dX6_rowAt_33 rfl h
theorem b83_0 {g : Nat → Nat} {C S : Nat} {σ : PS} {Q : Rs → PS → Prop} {r0 : Nat} {r1 : Nat} {l2 : Option Value}
    (h : zK σ r1 = 2 ∧ ∃ b1, zP σ r1 2 = some b1 ∧ (zK σ b1 = 7 ∧ WP g C S 55 0 [some (.ref b1)] [] σ (KK g C S 83 7 [some (.ref r0), some (.ref r1), l2] [] Q false))) :
    WP g C S 83 0 [some (.ref r0), some (.ref r1), l2] [] σ Q := by
  refine r_g (pc' := 1) (ls' := [some (.ref r0), some (.ref r1), l2]) (st' := [.ref r1]) dX6_realOne_0 (fun _ => rfl) ?_
  obtain ⟨hK, b1, hP, h⟩ := h
  refine r_getP dX6_realOne_1 rfl (by decide) rfl hK hP ?_
  obtain ⟨hK, h⟩ := h
  exact r_call (th := false) dX6_realOne_4 (fun _ => ex_calV rfl (by decide)) rfl (Nat.le_of_ble_eq_true rfl) (Nat.le_of_ble_eq_true rfl) (Nat.le_of_ble_eq_true rfl) (rcv0 rfl rfl (by decide) hK) rfl rfl rfl (fun q => nomatch q) h
theorem b83_7 {g : Nat → Nat} {C S : Nat} {σ : PS} {Q : Rs → PS → Prop} {r0 : Nat} {r1 : Nat} {l2 : Option Value} {u0 : Int32}
    (h : ((u0 : Int32) = 0 → WP g C S 83 14 [some (.ref r0), some (.ref r1), some (.int 0)] [] σ Q) ∧ (¬ ((u0 : Int32) = 0) → Q (Sum.inl (some (.ref r1))) σ)) :
    WP g C S 83 7 [some (.ref r0), some (.ref r1), l2] [.int u0] σ Q := by
  obtain ⟨h1, h2⟩ := h
  refine r_if (t := 12) dX6_realOne_7 (by decide) c_eq (fun c => ?_) (fun c => ?_)
  · have h := h1 c
    refine r_ic (v := 0) dX6_realOne_12 (by decide) ?_
    refine r_g (pc' := 14) (ls' := [some (.ref r0), some (.ref r1), some (.int 0)]) (st' := []) dX6_realOne_13 (fun _ => rfl) ?_
    exact h
  · have h := h2 c
    refine r_g (pc' := 11) (ls' := [some (.ref r0), some (.ref r1), l2]) (st' := [.ref r1]) dX6_realOne_10 (fun _ => rfl) ?_
    exact r_aret dX6_realOne_11 rfl h
theorem b83_14 {g : Nat → Nat} {C S : Nat} {σ : PS} {Q : Rs → PS → Prop} {r0 : Nat} {r1 : Nat} {x2 : Int32}
    (h : zK σ r1 = 2 ∧ ((zI σ r1 0 : Int32) ≤ x2 → WP g C S 83 75 [some (.ref r0), some (.ref r1), some (.int x2)] [] σ Q) ∧ (¬ ((zI σ r1 0 : Int32) ≤ x2) → zK σ r0 = 8 ∧ ∃ b1, zP σ r0 0 = some b1 ∧ (zK σ b1 = 1 ∧ WP g C S 161 0 [some (.ref b1)] [] σ (KK g C S 83 30 [some (.ref r0), some (.ref r1), some (.int x2)] [.int x2] Q false)))) :
    WP g C S 83 14 [some (.ref r0), some (.ref r1), some (.int x2)] [] σ Q := by
  refine r_g (pc' := 15) (ls' := [some (.ref r0), some (.ref r1), some (.int x2)]) (st' := [.int x2]) dX6_realOne_14 (fun _ => rfl) ?_
  refine r_g (pc' := 16) (ls' := [some (.ref r0), some (.ref r1), some (.int x2)]) (st' := [.ref r1, .int x2]) dX6_realOne_15 (fun _ => rfl) ?_
  obtain ⟨hK, h⟩ := h
  refine r_getI dX6_realOne_16 rfl (by decide) rfl hK ?_
  obtain ⟨h1, h2⟩ := h
  refine r_icmp (t := 75) dX6_realOne_19 (by decide) c_ge (fun c => ?_) (fun c => ?_)
  · have h := h1 c
    exact h
  · have h := h2 c
    refine r_g (pc' := 23) (ls' := [some (.ref r0), some (.ref r1), some (.int x2)]) (st' := [.int x2]) dX6_realOne_22 (fun _ => rfl) ?_
    refine r_g (pc' := 24) (ls' := [some (.ref r0), some (.ref r1), some (.int x2)]) (st' := [.ref r0, .int x2]) dX6_realOne_23 (fun _ => rfl) ?_
    obtain ⟨hK, b1, hP, h⟩ := h
    refine r_getP dX6_realOne_24 rfl (by decide) rfl hK hP ?_
    obtain ⟨hK, h⟩ := h
    exact r_call (th := false) dX6_realOne_27 (fun _ => ex_calV rfl (by decide)) rfl (Nat.le_of_ble_eq_true rfl) (Nat.le_of_ble_eq_true rfl) (Nat.le_of_ble_eq_true rfl) (rcv0 rfl rfl (by decide) hK) rfl rfl rfl (fun q => nomatch q) h
theorem b83_30 {g : Nat → Nat} {C S : Nat} {σ : PS} {Q : Rs → PS → Prop} {r0 : Nat} {r1 : Nat} {x2 : Int32} {u0 : Int32} {u1 : Int32}
    (h : ((u0 : Int32) ≤ u1 → WP g C S 83 75 [some (.ref r0), some (.ref r1), some (.int x2)] [] σ Q) ∧ (¬ ((u0 : Int32) ≤ u1) → zK σ r0 = 8 ∧ ∃ b1, zP σ r0 0 = some b1 ∧ (zK σ b1 = 1 ∧ WP g C S 163 0 [some (.ref b1), some (.int x2)] [] σ (KK g C S 83 41 [some (.ref r0), some (.ref r1), some (.int x2)] [] Q false)))) :
    WP g C S 83 30 [some (.ref r0), some (.ref r1), some (.int x2)] [.int u0, .int u1] σ Q := by
  obtain ⟨h1, h2⟩ := h
  refine r_icmp (t := 75) dX6_realOne_30 (by decide) c_ge (fun c => ?_) (fun c => ?_)
  · have h := h1 c
    exact h
  · have h := h2 c
    refine r_g (pc' := 34) (ls' := [some (.ref r0), some (.ref r1), some (.int x2)]) (st' := [.ref r0]) dX6_realOne_33 (fun _ => rfl) ?_
    obtain ⟨hK, b1, hP, h⟩ := h
    refine r_getP dX6_realOne_34 rfl (by decide) rfl hK hP ?_
    refine r_g (pc' := 38) (ls' := [some (.ref r0), some (.ref r1), some (.int x2)]) (st' := [.int x2, .ref b1]) dX6_realOne_37 (fun _ => rfl) ?_
    obtain ⟨hK, h⟩ := h
    exact r_call (th := false) dX6_realOne_38 (fun _ => ex_calV rfl (by decide)) rfl (Nat.le_of_ble_eq_true rfl) (Nat.le_of_ble_eq_true rfl) (Nat.le_of_ble_eq_true rfl) (rcv0 rfl rfl (by decide) hK) rfl rfl rfl (fun q => nomatch q) h
theorem b83_41 {g : Nat → Nat} {C S : Nat} {σ : PS} {Q : Rs → PS → Prop} {r0 : Nat} {r1 : Nat} {x2 : Int32} {w0 : Nat}
    (h : zK σ w0 = 2 ∧ zK σ w0 = 2 ∧ ∃ b1, zP σ w0 2 = some b1 ∧ (zK σ r1 = 2 ∧ ∃ b2, zP σ r1 2 = some b2 ∧ (zK σ b1 = 7 ∧ WP g C S 65 0 [some (.ref b1), some (.ref b2)] [] σ (KK g C S 83 54 [some (.ref r0), some (.ref r1), some (.int x2)] [] Q false)))) :
    WP g C S 83 41 [some (.ref r0), some (.ref r1), some (.int x2)] [.ref w0] σ Q := by
  obtain ⟨hK, h⟩ := h
  refine r_chk dX6_realOne_41 rfl (Or.inl ⟨by decide, hK⟩) ?_
  obtain ⟨hK, b1, hP, h⟩ := h
  refine r_getP dX6_realOne_44 rfl (by decide) rfl hK hP ?_
  refine r_g (pc' := 48) (ls' := [some (.ref r0), some (.ref r1), some (.int x2)]) (st' := [.ref r1, .ref b1]) dX6_realOne_47 (fun _ => rfl) ?_
  obtain ⟨hK, b2, hP, h⟩ := h
  refine r_getP dX6_realOne_48 rfl (by decide) rfl hK hP ?_
  obtain ⟨hK, h⟩ := h
  exact r_call (th := false) dX6_realOne_51 (fun _ => ex_calV rfl (by decide)) rfl (Nat.le_of_ble_eq_true rfl) (Nat.le_of_ble_eq_true rfl) (Nat.le_of_ble_eq_true rfl) (rcv0 rfl rfl (by decide) hK) rfl rfl rfl (fun q => nomatch q) h
theorem b83_54 {g : Nat → Nat} {C S : Nat} {σ : PS} {Q : Rs → PS → Prop} {r0 : Nat} {r1 : Nat} {x2 : Int32} {u0 : Int32}
    (h : ((u0 : Int32) = 0 → WP g C S 83 14 [some (.ref r0), some (.ref r1), some (.int (x2 + 1))] [] σ Q) ∧ (¬ ((u0 : Int32) = 0) → zK σ r0 = 8 ∧ ∃ b1, zP σ r0 0 = some b1 ∧ (zK σ b1 = 1 ∧ WP g C S 163 0 [some (.ref b1), some (.int x2)] [] σ (KK g C S 83 65 [some (.ref r0), some (.ref r1), some (.int x2)] [] Q false)))) :
    WP g C S 83 54 [some (.ref r0), some (.ref r1), some (.int x2)] [.int u0] σ Q := by
  obtain ⟨h1, h2⟩ := h
  refine r_if (t := 69) dX6_realOne_54 (by decide) c_eq (fun c => ?_) (fun c => ?_)
  · have h := h1 c
    refine r_inc (v := 1) (ls' := [some (.ref r0), some (.ref r1), some (.int (x2 + 1))]) dX6_realOne_69 rfl (Nat.le_of_ble_eq_true rfl) (by decide) rfl ?_
    refine r_goto (t := 14) dX6_realOne_72 (by decide) ?_
    exact h
  · have h := h2 c
    refine r_g (pc' := 58) (ls' := [some (.ref r0), some (.ref r1), some (.int x2)]) (st' := [.ref r0]) dX6_realOne_57 (fun _ => rfl) ?_
    obtain ⟨hK, b1, hP, h⟩ := h
    refine r_getP dX6_realOne_58 rfl (by decide) rfl hK hP ?_
    refine r_g (pc' := 62) (ls' := [some (.ref r0), some (.ref r1), some (.int x2)]) (st' := [.int x2, .ref b1]) dX6_realOne_61 (fun _ => rfl) ?_
    obtain ⟨hK, h⟩ := h
    exact r_call (th := false) dX6_realOne_62 (fun _ => ex_calV rfl (by decide)) rfl (Nat.le_of_ble_eq_true rfl) (Nat.le_of_ble_eq_true rfl) (Nat.le_of_ble_eq_true rfl) (rcv0 rfl rfl (by decide) hK) rfl rfl rfl (fun q => nomatch q) h
theorem b83_65 {g : Nat → Nat} {C S : Nat} {σ : PS} {Q : Rs → PS → Prop} {l0 : Option Value} {l1 : Option Value} {l2 : Option Value} {w0 : Nat}
    (h : zK σ w0 = 2 ∧ Q (Sum.inl (some (.ref w0))) σ) :
    WP g C S 83 65 [l0, l1, l2] [.ref w0] σ Q := by
  obtain ⟨hK, h⟩ := h
  refine r_chk dX6_realOne_65 rfl (Or.inl ⟨by decide, hK⟩) ?_
  exact r_aret dX6_realOne_68 rfl h
theorem b83_75 {g : Nat → Nat} {C S : Nat} {σ : PS} {Q : Rs → PS → Prop} {l0 : Option Value} {r1 : Nat} {l2 : Option Value}
    (h : Q (Sum.inl (some (.ref r1))) σ) :
    WP g C S 83 75 [l0, some (.ref r1), l2] [] σ Q := by
  refine r_g (pc' := 76) (ls' := [l0, some (.ref r1), l2]) (st' := [.ref r1]) dX6_realOne_75 (fun _ => rfl) ?_
  exact r_aret dX6_realOne_76 rfl h
theorem b84_0 {g : Nat → Nat} {C S : Nat} {σ : PS} {Q : Rs → PS → Prop} {r0 : Nat}
    (h : zK σ r0 = 8 ∧ ∃ b1, zP σ r0 4 = some b1 ∧ (zK σ b1 = 3 ∧ (¬ (zI σ b1 2 : Int32) = 0 → zK σ r0 = 8 ∧ ∃ b2, zP σ r0 5 = some b2 ∧ (zK σ b2 = 7 ∧ WP g C S 53 0 [some (.ref b2)] [] σ (KK g C S 84 27 [some (.ref r0)] [] Q false))) ∧ (¬ (¬ (zI σ b1 2 : Int32) = 0) → (zN σ + 1 ≤ C ∧ zS σ + 6 ≤ S) ∧ Q (Sum.inr 1) σ))) :
    WP g C S 84 0 [some (.ref r0)] [] σ Q := by
  refine r_g (pc' := 1) (ls' := [some (.ref r0)]) (st' := [.ref r0]) dX6_printHead_0 (fun _ => rfl) ?_
  obtain ⟨hK, b1, hP, h⟩ := h
  refine r_getP dX6_printHead_1 rfl (by decide) rfl hK hP ?_
  obtain ⟨hK, h⟩ := h
  refine r_getI dX6_printHead_4 rfl (by decide) rfl hK ?_
  obtain ⟨h1, h2⟩ := h
  refine r_if (t := 20) dX6_printHead_7 (by decide) c_ne (fun c => ?_) (fun c => ?_)
  · have h := h1 c
    refine r_g (pc' := 21) (ls' := [some (.ref r0)]) (st' := [.ref r0]) dX6_printHead_20 (fun _ => rfl) ?_
    obtain ⟨hK, b2, hP, h⟩ := h
    refine r_getP dX6_printHead_21 rfl (by decide) rfl hK hP ?_
    obtain ⟨hK, h⟩ := h
    exact r_call (th := false) dX6_printHead_24 (fun _ => ex_calV rfl (by decide)) rfl (Nat.le_of_ble_eq_true rfl) (Nat.le_of_ble_eq_true rfl) (Nat.le_of_ble_eq_true rfl) (rcv0 rfl rfl (by decide) hK) rfl rfl rfl (fun q => nomatch q) h
  · have h := h2 c
    exact r_thr rfl (Nat.le_of_ble_eq_true rfl) (Nat.le_of_ble_eq_true rfl) (Nat.le_of_ble_eq_true rfl) h.1.1 h.1.2 h.2
theorem b84_27 {g : Nat → Nat} {C S : Nat} {σ : PS} {Q : Rs → PS → Prop} {r0 : Nat}
    (h : zK σ r0 = 8 ∧ ∃ b1, zP σ r0 5 = some b1 ∧ (zK σ b1 = 7 ∧ WP g C S 59 0 [some (.ref b1), some (.ref (g 109)), none] [] σ (KK g C S 84 36 [some (.ref r0)] [] Q false))) :
    WP g C S 84 27 [some (.ref r0)] [] σ Q := by
  refine r_g (pc' := 28) (ls' := [some (.ref r0)]) (st' := [.ref r0]) dX6_printHead_27 (fun _ => rfl) ?_
  obtain ⟨hK, b1, hP, h⟩ := h
  refine r_getP dX6_printHead_28 rfl (by decide) rfl hK hP ?_
  refine r_ldcS dX6_printHead_31 rfl ?_
  obtain ⟨hK, h⟩ := h
  exact r_call (th := false) dX6_printHead_33 (fun _ => ex_calV rfl (by decide)) rfl (Nat.le_of_ble_eq_true rfl) (Nat.le_of_ble_eq_true rfl) (Nat.le_of_ble_eq_true rfl) (rcv0 rfl rfl (by decide) hK) rfl rfl rfl (fun q => nomatch q) h
theorem b84_36 {g : Nat → Nat} {C S : Nat} {σ : PS} {Q : Rs → PS → Prop} {r0 : Nat}
    (h : zK σ r0 = 8 ∧ ∃ b1, zP σ r0 5 = some b1 ∧ (zK σ r0 = 8 ∧ ∃ b2, zP σ r0 4 = some b2 ∧ (zK σ b2 = 3 ∧ WP g C S 6 0 [some (.ref b2)] [] σ (KK g C S 84 47 [some (.ref r0)] [.ref b1] Q false)))) :
    WP g C S 84 36 [some (.ref r0)] [] σ Q := by
  refine r_g (pc' := 37) (ls' := [some (.ref r0)]) (st' := [.ref r0]) dX6_printHead_36 (fun _ => rfl) ?_
  obtain ⟨hK, b1, hP, h⟩ := h
  refine r_getP dX6_printHead_37 rfl (by decide) rfl hK hP ?_
  refine r_g (pc' := 41) (ls' := [some (.ref r0)]) (st' := [.ref r0, .ref b1]) dX6_printHead_40 (fun _ => rfl) ?_
  obtain ⟨hK, b2, hP, h⟩ := h
  refine r_getP dX6_printHead_41 rfl (by decide) rfl hK hP ?_
  obtain ⟨hK, h⟩ := h
  exact r_call (th := false) dX6_printHead_44 (fun _ => ex_calV rfl (by decide)) rfl (Nat.le_of_ble_eq_true rfl) (Nat.le_of_ble_eq_true rfl) (Nat.le_of_ble_eq_true rfl) (rcv0 rfl rfl (by decide) hK) rfl rfl rfl (fun q => nomatch q) h
theorem b84_47 {g : Nat → Nat} {C S : Nat} {σ : PS} {Q : Rs → PS → Prop} {r0 : Nat} {u0 : Int32} {w1 : Nat}
    (h : zK σ w1 = 7 ∧ WP g C S 62 0 [some (.ref w1), some (.int u0)] [] σ (KK g C S 84 50 [some (.ref r0)] [] Q false)) :
    WP g C S 84 47 [some (.ref r0)] [.int u0, .ref w1] σ Q := by
  obtain ⟨hK, h⟩ := h
  exact r_call (th := false) dX6_printHead_47 (fun _ => ex_calV rfl (by decide)) rfl (Nat.le_of_ble_eq_true rfl) (Nat.le_of_ble_eq_true rfl) (Nat.le_of_ble_eq_true rfl) (rcv0 rfl rfl (by decide) hK) rfl rfl rfl (fun q => nomatch q) h
theorem b84_50 {g : Nat → Nat} {C S : Nat} {σ : PS} {Q : Rs → PS → Prop} {r0 : Nat}
    (h : zK σ r0 = 8 ∧ ∃ b1, zP σ r0 5 = some b1 ∧ (zK σ b1 = 7 ∧ WP g C S 57 0 [some (.ref b1), some (.int 41), none] [] σ (KK g C S 84 59 [some (.ref r0)] [] Q false))) :
    WP g C S 84 50 [some (.ref r0)] [] σ Q := by
  refine r_g (pc' := 51) (ls' := [some (.ref r0)]) (st' := [.ref r0]) dX6_printHead_50 (fun _ => rfl) ?_
  obtain ⟨hK, b1, hP, h⟩ := h
  refine r_getP dX6_printHead_51 rfl (by decide) rfl hK hP ?_
  refine r_bi (v := 41) dX6_printHead_54 (by decide) ?_
  obtain ⟨hK, h⟩ := h
  exact r_call (th := false) dX6_printHead_56 (fun _ => ex_calV rfl (by decide)) rfl (Nat.le_of_ble_eq_true rfl) (Nat.le_of_ble_eq_true rfl) (Nat.le_of_ble_eq_true rfl) (rcv0 rfl rfl (by decide) hK) rfl rfl rfl (fun q => nomatch q) h
theorem b84_59 {g : Nat → Nat} {C S : Nat} {σ : PS} {Q : Rs → PS → Prop} {l0 : Option Value}
    (h : Q (Sum.inl none) σ) :
    WP g C S 84 59 [l0] [] σ Q := by
  exact r_vret dX6_printHead_59 rfl h
theorem b85_0 {g : Nat → Nat} {C S : Nat} {σ : PS} {Q : Rs → PS → Prop} {r0 : Nat} {x1 : Int32}
    (h : ((x1 : Int32) < 0 → WP g C S 85 12 [some (.ref r0), some (.int x1)] [] σ Q) ∧ (¬ ((x1 : Int32) < 0) → zK σ r0 = 7 ∧ WP g C S 54 0 [some (.ref r0)] [] σ (KK g C S 85 9 [some (.ref r0), some (.int x1)] [.int x1] Q false))) :
    WP g C S 85 0 [some (.ref r0), some (.int x1)] [] σ Q := by
  refine r_g (pc' := 1) (ls' := [some (.ref r0), some (.int x1)]) (st' := [.int x1]) dX6_signOf_0 (fun _ => rfl) ?_
  obtain ⟨h1, h2⟩ := h
  refine r_if (t := 12) dX6_signOf_1 (by decide) c_lt (fun c => ?_) (fun c => ?_)
  · have h := h1 c
    exact h
  · have h := h2 c
    refine r_g (pc' := 5) (ls' := [some (.ref r0), some (.int x1)]) (st' := [.int x1]) dX6_signOf_4 (fun _ => rfl) ?_
    refine r_g (pc' := 6) (ls' := [some (.ref r0), some (.int x1)]) (st' := [.ref r0, .int x1]) dX6_signOf_5 (fun _ => rfl) ?_
    obtain ⟨hK, h⟩ := h
    exact r_call (th := false) dX6_signOf_6 (fun _ => ex_calV rfl (by decide)) rfl (Nat.le_of_ble_eq_true rfl) (Nat.le_of_ble_eq_true rfl) (Nat.le_of_ble_eq_true rfl) (rcv0 rfl rfl (by decide) hK) rfl rfl rfl (fun q => nomatch q) h
theorem b85_9 {g : Nat → Nat} {C S : Nat} {σ : PS} {Q : Rs → PS → Prop} {r0 : Nat} {x1 : Int32} {u0 : Int32} {u1 : Int32}
    (h : ((u1 : Int32) < u0 → zK σ r0 = 7 ∧ WP g C S 56 0 [some (.ref r0), some (.int x1)] [] σ (KK g C S 85 27 [some (.ref r0), some (.int x1)] [] Q false)) ∧ (¬ ((u1 : Int32) < u0) → WP g C S 85 12 [some (.ref r0), some (.int x1)] [] σ Q)) :
    WP g C S 85 9 [some (.ref r0), some (.int x1)] [.int u0, .int u1] σ Q := by
  obtain ⟨h1, h2⟩ := h
  refine r_icmp (t := 22) dX6_signOf_9 (by decide) c_lt (fun c => ?_) (fun c => ?_)
  · have h := h1 c
    refine r_g (pc' := 23) (ls' := [some (.ref r0), some (.int x1)]) (st' := [.ref r0]) dX6_signOf_22 (fun _ => rfl) ?_
    refine r_g (pc' := 24) (ls' := [some (.ref r0), some (.int x1)]) (st' := [.int x1, .ref r0]) dX6_signOf_23 (fun _ => rfl) ?_
    obtain ⟨hK, h⟩ := h
    exact r_call (th := false) dX6_signOf_24 (fun _ => ex_calV rfl (by decide)) rfl (Nat.le_of_ble_eq_true rfl) (Nat.le_of_ble_eq_true rfl) (Nat.le_of_ble_eq_true rfl) (rcv0 rfl rfl (by decide) hK) rfl rfl rfl (fun q => nomatch q) h
  · have h := h2 c
    exact h
theorem b85_12 {g : Nat → Nat} {C S : Nat} {σ : PS} {Q : Rs → PS → Prop} {l0 : Option Value} {l1 : Option Value}
    (h : (zN σ + 1 ≤ C ∧ zS σ + 6 ≤ S) ∧ Q (Sum.inr 1) σ) :
    WP g C S 85 12 [l0, l1] [] σ Q := by
  exact r_thr rfl (Nat.le_of_ble_eq_true rfl) (Nat.le_of_ble_eq_true rfl) (Nat.le_of_ble_eq_true rfl) h.1.1 h.1.2 h.2
theorem b85_27 {g : Nat → Nat} {C S : Nat} {σ : PS} {Q : Rs → PS → Prop} {l0 : Option Value} {l1 : Option Value} {u0 : Int32}
    (h : Q (Sum.inl (some (.int u0))) σ) :
    WP g C S 85 27 [l0, l1] [.int u0] σ Q := by
  exact r_ret dX6_signOf_27 rfl h
theorem b86_0 {g : Nat → Nat} {C S : Nat} {σ : PS} {Q : Rs → PS → Prop} {r0 : Nat} {x1 : Int32} {x2 : Int32} {l3 : Option Value} {l4 : Option Value} {l5 : Option Value}
    (h : WP g C S 86 5 [some (.ref r0), some (.int x1), some (.int x2), some (.int 0), some (.int 0), l5] [] σ Q) :
    WP g C S 86 0 [some (.ref r0), some (.int x1), some (.int x2), l3, l4, l5] [] σ Q := by
  refine r_ic (v := 0) dX6_addBytes_0 (by decide) ?_
  refine r_g (pc' := 2) (ls' := [some (.ref r0), some (.int x1), some (.int x2), some (.int 0), l4, l5]) (st' := []) dX6_addBytes_1 (fun _ => rfl) ?_
  refine r_ic (v := 0) dX6_addBytes_2 (by decide) ?_
  refine r_g (pc' := 5) (ls' := [some (.ref r0), some (.int x1), some (.int x2), some (.int 0), some (.int 0), l5]) (st' := []) dX6_addBytes_3 (fun _ => rfl) ?_
  exact h
theorem b86_5 {g : Nat → Nat} {C S : Nat} {σ : PS} {Q : Rs → PS → Prop} {r0 : Nat} {x1 : Int32} {x2 : Int32} {x3 : Int32} {x4 : Int32} {l5 : Option Value}
    (h : ((4 : Int32) ≤ x4 → zK σ r0 = 7 ∧ WP g C S 54 0 [some (.ref r0)] [] σ (KK g C S 86 55 [some (.ref r0), some (.int x1), some (.int x2), some (.int x3), some (.int x4), l5] [] Q false)) ∧ (¬ ((4 : Int32) ≤ x4) → WP g C S 87 0 [some (.int x1), some (.int x4)] [] σ (KK g C S 86 17 [some (.ref r0), some (.int x1), some (.int x2), some (.int x3), some (.int x4), l5] [] Q false))) :
    WP g C S 86 5 [some (.ref r0), some (.int x1), some (.int x2), some (.int x3), some (.int x4), l5] [] σ Q := by
  refine r_g (pc' := 7) (ls' := [some (.ref r0), some (.int x1), some (.int x2), some (.int x3), some (.int x4), l5]) (st' := [.int x4]) dX6_addBytes_5 (fun _ => rfl) ?_
  refine r_ic (v := 4) dX6_addBytes_7 (by decide) ?_
  obtain ⟨h1, h2⟩ := h
  refine r_icmp (t := 51) dX6_addBytes_8 (by decide) c_ge (fun c => ?_) (fun c => ?_)
  · have h := h1 c
    refine r_g (pc' := 52) (ls' := [some (.ref r0), some (.int x1), some (.int x2), some (.int x3), some (.int x4), l5]) (st' := [.ref r0]) dX6_addBytes_51 (fun _ => rfl) ?_
    obtain ⟨hK, h⟩ := h
    exact r_call (th := false) dX6_addBytes_52 (fun _ => ex_calV rfl (by decide)) rfl (Nat.le_of_ble_eq_true rfl) (Nat.le_of_ble_eq_true rfl) (Nat.le_of_ble_eq_true rfl) (rcv0 rfl rfl (by decide) hK) rfl rfl rfl (fun q => nomatch q) h
  · have h := h2 c
    refine r_g (pc' := 12) (ls' := [some (.ref r0), some (.int x1), some (.int x2), some (.int x3), some (.int x4), l5]) (st' := [.int x1]) dX6_addBytes_11 (fun _ => rfl) ?_
    refine r_g (pc' := 14) (ls' := [some (.ref r0), some (.int x1), some (.int x2), some (.int x3), some (.int x4), l5]) (st' := [.int x4, .int x1]) dX6_addBytes_12 (fun _ => rfl) ?_
    exact r_call (th := false) dX6_addBytes_14 (fun _ => ex_calS rfl (by decide)) rfl (Nat.le_of_ble_eq_true rfl) (Nat.le_of_ble_eq_true rfl) (Nat.le_of_ble_eq_true rfl) rfl rfl rfl rfl (fun q => nomatch q) h
theorem b86_17 {g : Nat → Nat} {C S : Nat} {σ : PS} {Q : Rs → PS → Prop} {r0 : Nat} {x1 : Int32} {x2 : Int32} {x3 : Int32} {x4 : Int32} {l5 : Option Value} {u0 : Int32}
    (h : ((u0 : Int32) = 0 → WP g C S 86 45 [some (.ref r0), some (.int x1), some (.int x2), some (.int x3), some (.int x4), some (.int u0)] [] σ Q) ∧ (¬ ((u0 : Int32) = 0) → WP g C S 88 0 [some (.int u0)] [] σ (KK g C S 86 29 [some (.ref r0), some (.int x1), some (.int x2), some (.int x3), some (.int x4), some (.int u0)] [] Q false))) :
    WP g C S 86 17 [some (.ref r0), some (.int x1), some (.int x2), some (.int x3), some (.int x4), l5] [.int u0] σ Q := by
  refine r_g (pc' := 19) (ls' := [some (.ref r0), some (.int x1), some (.int x2), some (.int x3), some (.int x4), some (.int u0)]) (st' := []) dX6_addBytes_17 (fun _ => rfl) ?_
  refine r_g (pc' := 21) (ls' := [some (.ref r0), some (.int x1), some (.int x2), some (.int x3), some (.int x4), some (.int u0)]) (st' := [.int u0]) dX6_addBytes_19 (fun _ => rfl) ?_
  obtain ⟨h1, h2⟩ := h
  refine r_if (t := 45) dX6_addBytes_21 (by decide) c_eq (fun c => ?_) (fun c => ?_)
  · have h := h1 c
    exact h
  · have h := h2 c
    refine r_g (pc' := 26) (ls' := [some (.ref r0), some (.int x1), some (.int x2), some (.int x3), some (.int x4), some (.int u0)]) (st' := [.int u0]) dX6_addBytes_24 (fun _ => rfl) ?_
    exact r_call (th := false) dX6_addBytes_26 (fun _ => ex_calS rfl (by decide)) rfl (Nat.le_of_ble_eq_true rfl) (Nat.le_of_ble_eq_true rfl) (Nat.le_of_ble_eq_true rfl) rfl rfl rfl rfl (fun q => nomatch q) h
theorem b86_29 {g : Nat → Nat} {C S : Nat} {σ : PS} {Q : Rs → PS → Prop} {r0 : Nat} {x1 : Int32} {x2 : Int32} {x3 : Int32} {x4 : Int32} {l5 : Option Value} {u0 : Int32}
    (h : (¬ (u0 : Int32) = 0 → WP g C S 86 45 [some (.ref r0), some (.int x1), some (.int x2), some (.int (x3 + 1)), some (.int x4), l5] [] σ Q) ∧ (¬ (¬ (u0 : Int32) = 0) → (zN σ + 1 ≤ C ∧ zS σ + 6 ≤ S) ∧ Q (Sum.inr 2) σ)) :
    WP g C S 86 29 [some (.ref r0), some (.int x1), some (.int x2), some (.int x3), some (.int x4), l5] [.int u0] σ Q := by
  obtain ⟨h1, h2⟩ := h
  refine r_if (t := 42) dX6_addBytes_29 (by decide) c_ne (fun c => ?_) (fun c => ?_)
  · have h := h1 c
    refine r_inc (v := 1) (ls' := [some (.ref r0), some (.int x1), some (.int x2), some (.int (x3 + 1)), some (.int x4), l5]) dX6_addBytes_42 rfl (Nat.le_of_ble_eq_true rfl) (by decide) rfl ?_
    exact h
  · have h := h2 c
    exact r_thr rfl (Nat.le_of_ble_eq_true rfl) (Nat.le_of_ble_eq_true rfl) (Nat.le_of_ble_eq_true rfl) h.1.1 h.1.2 h.2
theorem b86_45 {g : Nat → Nat} {C S : Nat} {σ : PS} {Q : Rs → PS → Prop} {r0 : Nat} {x1 : Int32} {x2 : Int32} {x3 : Int32} {x4 : Int32} {l5 : Option Value}
    (h : WP g C S 86 5 [some (.ref r0), some (.int x1), some (.int x2), some (.int x3), some (.int (x4 + 1)), l5] [] σ Q) :
    WP g C S 86 45 [some (.ref r0), some (.int x1), some (.int x2), some (.int x3), some (.int x4), l5] [] σ Q := by
  refine r_inc (v := 1) (ls' := [some (.ref r0), some (.int x1), some (.int x2), some (.int x3), some (.int (x4 + 1)), l5]) dX6_addBytes_45 rfl (Nat.le_of_ble_eq_true rfl) (by decide) rfl ?_
  refine r_goto (t := 5) dX6_addBytes_48 (by decide) ?_
  exact h
theorem b86_55 {g : Nat → Nat} {C S : Nat} {σ : PS} {Q : Rs → PS → Prop} {r0 : Nat} {x1 : Int32} {x2 : Int32} {x3 : Int32} {l4 : Option Value} {l5 : Option Value} {u0 : Int32}
    (h : ((u0 + x3 : Int32) ≤ x2 → WP g C S 86 74 [some (.ref r0), some (.int x1), some (.int x2), some (.int x3), some (.int 0), l5] [] σ Q) ∧ (¬ ((u0 + x3 : Int32) ≤ x2) → (zN σ + 1 ≤ C ∧ zS σ + 6 ≤ S) ∧ Q (Sum.inr 3) σ)) :
    WP g C S 86 55 [some (.ref r0), some (.int x1), some (.int x2), some (.int x3), l4, l5] [.int u0] σ Q := by
  refine r_g (pc' := 56) (ls' := [some (.ref r0), some (.int x1), some (.int x2), some (.int x3), l4, l5]) (st' := [.int x3, .int u0]) dX6_addBytes_55 (fun _ => rfl) ?_
  refine r_g (pc' := 57) (ls' := [some (.ref r0), some (.int x1), some (.int x2), some (.int x3), l4, l5]) (st' := [.int (u0 + x3)]) dX6_addBytes_56 (fun _ => rfl) ?_
  refine r_g (pc' := 58) (ls' := [some (.ref r0), some (.int x1), some (.int x2), some (.int x3), l4, l5]) (st' := [.int x2, .int (u0 + x3)]) dX6_addBytes_57 (fun _ => rfl) ?_
  obtain ⟨h1, h2⟩ := h
  refine r_icmp (t := 71) dX6_addBytes_58 (by decide) c_le (fun c => ?_) (fun c => ?_)
  · have h := h1 c
    refine r_ic (v := 0) dX6_addBytes_71 (by decide) ?_
    refine r_g (pc' := 74) (ls' := [some (.ref r0), some (.int x1), some (.int x2), some (.int x3), some (.int 0), l5]) (st' := []) dX6_addBytes_72 (fun _ => rfl) ?_
    exact h
  · have h := h2 c
    exact r_thr rfl (Nat.le_of_ble_eq_true rfl) (Nat.le_of_ble_eq_true rfl) (Nat.le_of_ble_eq_true rfl) h.1.1 h.1.2 h.2
theorem b86_74 {g : Nat → Nat} {C S : Nat} {σ : PS} {Q : Rs → PS → Prop} {r0 : Nat} {x1 : Int32} {l2 : Option Value} {l3 : Option Value} {x4 : Int32} {l5 : Option Value}
    (h : ((4 : Int32) ≤ x4 → Q (Sum.inl none) σ) ∧ (¬ ((4 : Int32) ≤ x4) → WP g C S 87 0 [some (.int x1), some (.int x4)] [] σ (KK g C S 86 86 [some (.ref r0), some (.int x1), l2, l3, some (.int x4), l5] [] Q false))) :
    WP g C S 86 74 [some (.ref r0), some (.int x1), l2, l3, some (.int x4), l5] [] σ Q := by
  refine r_g (pc' := 76) (ls' := [some (.ref r0), some (.int x1), l2, l3, some (.int x4), l5]) (st' := [.int x4]) dX6_addBytes_74 (fun _ => rfl) ?_
  refine r_ic (v := 4) dX6_addBytes_76 (by decide) ?_
  obtain ⟨h1, h2⟩ := h
  refine r_icmp (t := 105) dX6_addBytes_77 (by decide) c_ge (fun c => ?_) (fun c => ?_)
  · have h := h1 c
    exact r_vret dX6_addBytes_105 rfl h
  · have h := h2 c
    refine r_g (pc' := 81) (ls' := [some (.ref r0), some (.int x1), l2, l3, some (.int x4), l5]) (st' := [.int x1]) dX6_addBytes_80 (fun _ => rfl) ?_
    refine r_g (pc' := 83) (ls' := [some (.ref r0), some (.int x1), l2, l3, some (.int x4), l5]) (st' := [.int x4, .int x1]) dX6_addBytes_81 (fun _ => rfl) ?_
    exact r_call (th := false) dX6_addBytes_83 (fun _ => ex_calS rfl (by decide)) rfl (Nat.le_of_ble_eq_true rfl) (Nat.le_of_ble_eq_true rfl) (Nat.le_of_ble_eq_true rfl) rfl rfl rfl rfl (fun q => nomatch q) h
theorem b86_86 {g : Nat → Nat} {C S : Nat} {σ : PS} {Q : Rs → PS → Prop} {r0 : Nat} {x1 : Int32} {l2 : Option Value} {l3 : Option Value} {x4 : Int32} {l5 : Option Value} {u0 : Int32}
    (h : ((u0 : Int32) = 0 → WP g C S 86 99 [some (.ref r0), some (.int x1), l2, l3, some (.int x4), l5] [] σ Q) ∧ (¬ ((u0 : Int32) = 0) → WP g C S 87 0 [some (.int x1), some (.int x4)] [] σ (KK g C S 86 96 [some (.ref r0), some (.int x1), l2, l3, some (.int x4), l5] [.ref r0] Q false))) :
    WP g C S 86 86 [some (.ref r0), some (.int x1), l2, l3, some (.int x4), l5] [.int u0] σ Q := by
  obtain ⟨h1, h2⟩ := h
  refine r_if (t := 99) dX6_addBytes_86 (by decide) c_eq (fun c => ?_) (fun c => ?_)
  · have h := h1 c
    exact h
  · have h := h2 c
    refine r_g (pc' := 90) (ls' := [some (.ref r0), some (.int x1), l2, l3, some (.int x4), l5]) (st' := [.ref r0]) dX6_addBytes_89 (fun _ => rfl) ?_
    refine r_g (pc' := 91) (ls' := [some (.ref r0), some (.int x1), l2, l3, some (.int x4), l5]) (st' := [.int x1, .ref r0]) dX6_addBytes_90 (fun _ => rfl) ?_
    refine r_g (pc' := 93) (ls' := [some (.ref r0), some (.int x1), l2, l3, some (.int x4), l5]) (st' := [.int x4, .int x1, .ref r0]) dX6_addBytes_91 (fun _ => rfl) ?_
    exact r_call (th := false) dX6_addBytes_93 (fun _ => ex_calS rfl (by decide)) rfl (Nat.le_of_ble_eq_true rfl) (Nat.le_of_ble_eq_true rfl) (Nat.le_of_ble_eq_true rfl) rfl rfl rfl rfl (fun q => nomatch q) h
theorem b86_96 {g : Nat → Nat} {C S : Nat} {σ : PS} {Q : Rs → PS → Prop} {r0 : Nat} {x1 : Int32} {l2 : Option Value} {l3 : Option Value} {x4 : Int32} {l5 : Option Value} {u0 : Int32} {w1 : Nat}
    (h : zK σ w1 = 7 ∧ WP g C S 57 0 [some (.ref w1), some (.int u0), none] [] σ (KK g C S 86 99 [some (.ref r0), some (.int x1), l2, l3, some (.int x4), l5] [] Q false)) :
    WP g C S 86 96 [some (.ref r0), some (.int x1), l2, l3, some (.int x4), l5] [.int u0, .ref w1] σ Q := by
  obtain ⟨hK, h⟩ := h
  exact r_call (th := false) dX6_addBytes_96 (fun _ => ex_calV rfl (by decide)) rfl (Nat.le_of_ble_eq_true rfl) (Nat.le_of_ble_eq_true rfl) (Nat.le_of_ble_eq_true rfl) (rcv0 rfl rfl (by decide) hK) rfl rfl rfl (fun q => nomatch q) h
theorem b86_99 {g : Nat → Nat} {C S : Nat} {σ : PS} {Q : Rs → PS → Prop} {r0 : Nat} {x1 : Int32} {l2 : Option Value} {l3 : Option Value} {x4 : Int32} {l5 : Option Value}
    (h : WP g C S 86 74 [some (.ref r0), some (.int x1), l2, (clr l3), some (.int (x4 + 1)), l5] [] σ Q) :
    WP g C S 86 99 [some (.ref r0), some (.int x1), l2, l3, some (.int x4), l5] [] σ Q := by
  refine r_inc (v := 1) (ls' := [some (.ref r0), some (.int x1), l2, (clr l3), some (.int (x4 + 1)), l5]) dX6_addBytes_99 rfl (Nat.le_of_ble_eq_true rfl) (by decide) rfl ?_
  refine r_goto (t := 74) dX6_addBytes_102 (by decide) ?_
  exact h
theorem b87_0 {g : Nat → Nat} {C S : Nat} {σ : PS} {Q : Rs → PS → Prop} {x0 : Int32} {x1 : Int32}
    (h : Q (Sum.inl (some (.int (((x0.toUInt32 >>> (Int32.toUInt32 (8 * x1) &&& Int32.toUInt32 31)).toInt32) &&& 255)))) σ) :
    WP g C S 87 0 [some (.int x0), some (.int x1)] [] σ Q := by
  refine r_g (pc' := 1) (ls' := [some (.int x0), some (.int x1)]) (st' := [.int x0]) dX6_byteOf_0 (fun _ => rfl) ?_
  refine r_bi (v := 8) dX6_byteOf_1 (by decide) ?_
  refine r_g (pc' := 4) (ls' := [some (.int x0), some (.int x1)]) (st' := [.int x1, .int 8, .int x0]) dX6_byteOf_3 (fun _ => rfl) ?_
  refine r_g (pc' := 5) (ls' := [some (.int x0), some (.int x1)]) (st' := [.int (8 * x1), .int x0]) dX6_byteOf_4 (fun _ => rfl) ?_
  refine r_g (pc' := 6) (ls' := [some (.int x0), some (.int x1)]) (st' := [.int ((x0.toUInt32 >>> (Int32.toUInt32 (8 * x1) &&& Int32.toUInt32 31)).toInt32)]) dX6_byteOf_5 (fun _ => rfl) ?_
  refine r_si (v := 255) dX6_byteOf_6 (by decide) ?_
  refine r_g (pc' := 10) (ls' := [some (.int x0), some (.int x1)]) (st' := [.int (((x0.toUInt32 >>> (Int32.toUInt32 (8 * x1) &&& Int32.toUInt32 31)).toInt32) &&& 255)]) dX6_byteOf_9 (fun _ => rfl) ?_
  exact r_ret dX6_byteOf_10 rfl h
theorem b88_0 {g : Nat → Nat} {C S : Nat} {σ : PS} {Q : Rs → PS → Prop} {x0 : Int32}
    (h : ((x0 : Int32) < 32 → WP g C S 88 12 [some (.int x0)] [] σ Q) ∧ (¬ ((x0 : Int32) < 32) → ((x0 : Int32) ≤ 126 → WP g C S 88 40 [some (.int x0)] [] σ Q) ∧ (¬ ((x0 : Int32) ≤ 126) → WP g C S 88 12 [some (.int x0)] [] σ Q))) :
    WP g C S 88 0 [some (.int x0)] [] σ Q := by
  refine r_g (pc' := 1) (ls' := [some (.int x0)]) (st' := [.int x0]) dX6_isCharacter_0 (fun _ => rfl) ?_
  refine r_bi (v := 32) dX6_isCharacter_1 (by decide) ?_
  obtain ⟨h1, h2⟩ := h
  refine r_icmp (t := 12) dX6_isCharacter_3 (by decide) c_lt (fun c => ?_) (fun c => ?_)
  · have h := h1 c
    exact h
  · have h := h2 c
    refine r_g (pc' := 7) (ls' := [some (.int x0)]) (st' := [.int x0]) dX6_isCharacter_6 (fun _ => rfl) ?_
    refine r_bi (v := 126) dX6_isCharacter_7 (by decide) ?_
    obtain ⟨h1, h2⟩ := h
    refine r_icmp (t := 40) dX6_isCharacter_9 (by decide) c_le (fun c => ?_) (fun c => ?_)
    · have h := h1 c
      exact h
    · have h := h2 c
      exact h
theorem b88_12 {g : Nat → Nat} {C S : Nat} {σ : PS} {Q : Rs → PS → Prop} {x0 : Int32}
    (h : ((x0 : Int32) < 192 → WP g C S 88 44 [some (.int x0)] [] σ Q) ∧ (¬ ((x0 : Int32) < 192) → ((255 : Int32) < x0 → WP g C S 88 44 [some (.int x0)] [] σ Q) ∧ (¬ ((255 : Int32) < x0) → ((x0 : Int32) = 215 → WP g C S 88 44 [some (.int x0)] [] σ Q) ∧ (¬ ((x0 : Int32) = 215) → ((x0 : Int32) = 247 → WP g C S 88 44 [some (.int x0)] [] σ Q) ∧ (¬ ((x0 : Int32) = 247) → WP g C S 88 40 [some (.int x0)] [] σ Q))))) :
    WP g C S 88 12 [some (.int x0)] [] σ Q := by
  refine r_g (pc' := 13) (ls' := [some (.int x0)]) (st' := [.int x0]) dX6_isCharacter_12 (fun _ => rfl) ?_
  refine r_si (v := 192) dX6_isCharacter_13 (by decide) ?_
  obtain ⟨h1, h2⟩ := h
  refine r_icmp (t := 44) dX6_isCharacter_16 (by decide) c_lt (fun c => ?_) (fun c => ?_)
  · have h := h1 c
    exact h
  · have h := h2 c
    refine r_g (pc' := 20) (ls' := [some (.int x0)]) (st' := [.int x0]) dX6_isCharacter_19 (fun _ => rfl) ?_
    refine r_si (v := 255) dX6_isCharacter_20 (by decide) ?_
    obtain ⟨h1, h2⟩ := h
    refine r_icmp (t := 44) dX6_isCharacter_23 (by decide) c_gt (fun c => ?_) (fun c => ?_)
    · have h := h1 c
      exact h
    · have h := h2 c
      refine r_g (pc' := 27) (ls' := [some (.int x0)]) (st' := [.int x0]) dX6_isCharacter_26 (fun _ => rfl) ?_
      refine r_si (v := 215) dX6_isCharacter_27 (by decide) ?_
      obtain ⟨h1, h2⟩ := h
      refine r_icmp (t := 44) dX6_isCharacter_30 (by decide) c_eq (fun c => ?_) (fun c => ?_)
      · have h := h1 c
        exact h
      · have h := h2 c
        refine r_g (pc' := 34) (ls' := [some (.int x0)]) (st' := [.int x0]) dX6_isCharacter_33 (fun _ => rfl) ?_
        refine r_si (v := 247) dX6_isCharacter_34 (by decide) ?_
        obtain ⟨h1, h2⟩ := h
        refine r_icmp (t := 44) dX6_isCharacter_37 (by decide) c_eq (fun c => ?_) (fun c => ?_)
        · have h := h1 c
          exact h
        · have h := h2 c
          exact h
theorem b88_40 {g : Nat → Nat} {C S : Nat} {σ : PS} {Q : Rs → PS → Prop} {l0 : Option Value}
    (h : WP g C S 88 45 [l0] [.int 1] σ Q) :
    WP g C S 88 40 [l0] [] σ Q := by
  refine r_ic (v := 1) dX6_isCharacter_40 (by decide) ?_
  refine r_goto (t := 45) dX6_isCharacter_41 (by decide) ?_
  exact h
theorem b88_44 {g : Nat → Nat} {C S : Nat} {σ : PS} {Q : Rs → PS → Prop} {l0 : Option Value}
    (h : WP g C S 88 45 [l0] [.int 0] σ Q) :
    WP g C S 88 44 [l0] [] σ Q := by
  refine r_ic (v := 0) dX6_isCharacter_44 (by decide) ?_
  exact h
theorem b88_45 {g : Nat → Nat} {C S : Nat} {σ : PS} {Q : Rs → PS → Prop} {l0 : Option Value} {u0 : Int32}
    (h : ((u0 : Int32) = 0 ∨ u0 = 1) ∧ Q (Sum.inl (some (.int u0))) σ) :
    WP g C S 88 45 [l0] [.int u0] σ Q := by
  obtain ⟨hn, h⟩ := h
  exact r_ret dX6_isCharacter_45 (by rcases hn with q | q <;> rw [q] <;> rfl) h
theorem b89_0 {g : Nat → Nat} {C S : Nat} {σ : PS} {Q : Rs → PS → Prop} {x0 : Int32}
    (h : ((x0 : Int32) < 97 → WP g C S 89 12 [some (.int x0)] [] σ Q) ∧ (¬ ((x0 : Int32) < 97) → ((x0 : Int32) ≤ 122 → WP g C S 89 19 [some (.int x0)] [] σ Q) ∧ (¬ ((x0 : Int32) ≤ 122) → WP g C S 89 12 [some (.int x0)] [] σ Q))) :
    WP g C S 89 0 [some (.int x0)] [] σ Q := by
  refine r_g (pc' := 1) (ls' := [some (.int x0)]) (st' := [.int x0]) dX6_isSmall_0 (fun _ => rfl) ?_
  refine r_bi (v := 97) dX6_isSmall_1 (by decide) ?_
  obtain ⟨h1, h2⟩ := h
  refine r_icmp (t := 12) dX6_isSmall_3 (by decide) c_lt (fun c => ?_) (fun c => ?_)
  · have h := h1 c
    exact h
  · have h := h2 c
    refine r_g (pc' := 7) (ls' := [some (.int x0)]) (st' := [.int x0]) dX6_isSmall_6 (fun _ => rfl) ?_
    refine r_bi (v := 122) dX6_isSmall_7 (by decide) ?_
    obtain ⟨h1, h2⟩ := h
    refine r_icmp (t := 19) dX6_isSmall_9 (by decide) c_le (fun c => ?_) (fun c => ?_)
    · have h := h1 c
      exact h
    · have h := h2 c
      exact h
theorem b89_12 {g : Nat → Nat} {C S : Nat} {σ : PS} {Q : Rs → PS → Prop} {x0 : Int32}
    (h : ((x0 : Int32) ≤ 222 → WP g C S 89 24 [some (.int x0)] [.int 0] σ Q) ∧ (¬ ((x0 : Int32) ≤ 222) → WP g C S 89 19 [some (.int x0)] [] σ Q)) :
    WP g C S 89 12 [some (.int x0)] [] σ Q := by
  refine r_g (pc' := 13) (ls' := [some (.int x0)]) (st' := [.int x0]) dX6_isSmall_12 (fun _ => rfl) ?_
  refine r_si (v := 222) dX6_isSmall_13 (by decide) ?_
  obtain ⟨h1, h2⟩ := h
  refine r_icmp (t := 23) dX6_isSmall_16 (by decide) c_le (fun c => ?_) (fun c => ?_)
  · have h := h1 c
    refine r_ic (v := 0) dX6_isSmall_23 (by decide) ?_
    exact h
  · have h := h2 c
    exact h
theorem b89_19 {g : Nat → Nat} {C S : Nat} {σ : PS} {Q : Rs → PS → Prop} {l0 : Option Value}
    (h : WP g C S 89 24 [l0] [.int 1] σ Q) :
    WP g C S 89 19 [l0] [] σ Q := by
  refine r_ic (v := 1) dX6_isSmall_19 (by decide) ?_
  refine r_goto (t := 24) dX6_isSmall_20 (by decide) ?_
  exact h
theorem b89_24 {g : Nat → Nat} {C S : Nat} {σ : PS} {Q : Rs → PS → Prop} {l0 : Option Value} {u0 : Int32}
    (h : ((u0 : Int32) = 0 ∨ u0 = 1) ∧ Q (Sum.inl (some (.int u0))) σ) :
    WP g C S 89 24 [l0] [.int u0] σ Q := by
  obtain ⟨hn, h⟩ := h
  exact r_ret dX6_isSmall_24 (by rcases hn with q | q <;> rw [q] <;> rfl) h
theorem b90_0 {g : Nat → Nat} {C S : Nat} {σ : PS} {Q : Rs → PS → Prop} {x0 : Int32} {l1 : Option Value}
    (h : ((x0 : Int32) < 65 → WP g C S 90 20 [some (.int x0), l1] [] σ Q) ∧ (¬ ((x0 : Int32) < 65) → ((90 : Int32) < x0 → WP g C S 90 20 [some (.int x0), l1] [] σ Q) ∧ (¬ ((90 : Int32) < x0) → Q (Sum.inl (some (.int ((x0 - 65) + 97)))) σ))) :
    WP g C S 90 0 [some (.int x0), l1] [] σ Q := by
  refine r_g (pc' := 1) (ls' := [some (.int x0), l1]) (st' := [.int x0]) dX6_folded_0 (fun _ => rfl) ?_
  refine r_bi (v := 65) dX6_folded_1 (by decide) ?_
  obtain ⟨h1, h2⟩ := h
  refine r_icmp (t := 20) dX6_folded_3 (by decide) c_lt (fun c => ?_) (fun c => ?_)
  · have h := h1 c
    exact h
  · have h := h2 c
    refine r_g (pc' := 7) (ls' := [some (.int x0), l1]) (st' := [.int x0]) dX6_folded_6 (fun _ => rfl) ?_
    refine r_bi (v := 90) dX6_folded_7 (by decide) ?_
    obtain ⟨h1, h2⟩ := h
    refine r_icmp (t := 20) dX6_folded_9 (by decide) c_gt (fun c => ?_) (fun c => ?_)
    · have h := h1 c
      exact h
    · have h := h2 c
      refine r_g (pc' := 13) (ls' := [some (.int x0), l1]) (st' := [.int x0]) dX6_folded_12 (fun _ => rfl) ?_
      refine r_bi (v := 65) dX6_folded_13 (by decide) ?_
      refine r_g (pc' := 16) (ls' := [some (.int x0), l1]) (st' := [.int (x0 - 65)]) dX6_folded_15 (fun _ => rfl) ?_
      refine r_bi (v := 97) dX6_folded_16 (by decide) ?_
      refine r_g (pc' := 19) (ls' := [some (.int x0), l1]) (st' := [.int ((x0 - 65) + 97)]) dX6_folded_18 (fun _ => rfl) ?_
      exact r_ret dX6_folded_19 rfl h
theorem b90_20 {g : Nat → Nat} {C S : Nat} {σ : PS} {Q : Rs → PS → Prop} {x0 : Int32} {l1 : Option Value}
    (h : ((x0 - 192 : Int32) < 0 → WP g C S 90 48 [some (.int x0), some (.int (x0 - 192))] [] σ Q) ∧ (¬ ((x0 - 192 : Int32) < 0) → zK σ (g 100) = 1000 ∧ WP g C S 150 0 [some (.ref (g 100))] [] σ (KK g C S 90 36 [some (.int x0), some (.int (x0 - 192))] [.int (x0 - 192)] Q false))) :
    WP g C S 90 20 [some (.int x0), l1] [] σ Q := by
  refine r_g (pc' := 21) (ls' := [some (.int x0), l1]) (st' := [.int x0]) dX6_folded_20 (fun _ => rfl) ?_
  refine r_si (v := 192) dX6_folded_21 (by decide) ?_
  refine r_g (pc' := 25) (ls' := [some (.int x0), l1]) (st' := [.int (x0 - 192)]) dX6_folded_24 (fun _ => rfl) ?_
  refine r_g (pc' := 26) (ls' := [some (.int x0), some (.int (x0 - 192))]) (st' := []) dX6_folded_25 (fun _ => rfl) ?_
  refine r_g (pc' := 27) (ls' := [some (.int x0), some (.int (x0 - 192))]) (st' := [.int (x0 - 192)]) dX6_folded_26 (fun _ => rfl) ?_
  obtain ⟨h1, h2⟩ := h
  refine r_if (t := 48) dX6_folded_27 (by decide) c_lt (fun c => ?_) (fun c => ?_)
  · have h := h1 c
    exact h
  · have h := h2 c
    refine r_g (pc' := 31) (ls' := [some (.int x0), some (.int (x0 - 192))]) (st' := [.int (x0 - 192)]) dX6_folded_30 (fun _ => rfl) ?_
    refine r_ldcS dX6_folded_31 rfl ?_
    obtain ⟨hK, h⟩ := h
    exact r_call (th := false) dX6_folded_33 (fun _ => ex_calV rfl (by decide)) rfl (Nat.le_of_ble_eq_true rfl) (Nat.le_of_ble_eq_true rfl) (Nat.le_of_ble_eq_true rfl) (rcv0S rfl rfl rfl hK) rfl rfl rfl (fun q => nomatch q) h
theorem b90_36 {g : Nat → Nat} {C S : Nat} {σ : PS} {Q : Rs → PS → Prop} {x0 : Int32} {x1 : Int32} {u0 : Int32} {u1 : Int32}
    (h : ((u0 : Int32) ≤ u1 → WP g C S 90 48 [some (.int x0), some (.int x1)] [] σ Q) ∧ (¬ ((u0 : Int32) ≤ u1) → zK σ (g 100) = 1000 ∧ WP g C S 151 0 [some (.ref (g 100)), some (.int x1)] [] σ (KK g C S 90 45 [some (.int x0), some (.int x1)] [] Q false))) :
    WP g C S 90 36 [some (.int x0), some (.int x1)] [.int u0, .int u1] σ Q := by
  obtain ⟨h1, h2⟩ := h
  refine r_icmp (t := 48) dX6_folded_36 (by decide) c_ge (fun c => ?_) (fun c => ?_)
  · have h := h1 c
    exact h
  · have h := h2 c
    refine r_ldcS dX6_folded_39 rfl ?_
    refine r_g (pc' := 42) (ls' := [some (.int x0), some (.int x1)]) (st' := [.int x1, .ref (g 100)]) dX6_folded_41 (fun _ => rfl) ?_
    obtain ⟨hK, h⟩ := h
    exact r_call (th := false) dX6_folded_42 (fun _ => ex_calV rfl (by decide)) rfl (Nat.le_of_ble_eq_true rfl) (Nat.le_of_ble_eq_true rfl) (Nat.le_of_ble_eq_true rfl) (rcv0S rfl rfl rfl hK) rfl rfl rfl (fun q => nomatch q) h
theorem b90_45 {g : Nat → Nat} {C S : Nat} {σ : PS} {Q : Rs → PS → Prop} {l0 : Option Value} {l1 : Option Value} {u0 : Int32}
    (h : WP g C S 90 49 [l0, l1] [.int u0] σ Q) :
    WP g C S 90 45 [l0, l1] [.int u0] σ Q := by
  refine r_goto (t := 49) dX6_folded_45 (by decide) ?_
  exact h
theorem b90_48 {g : Nat → Nat} {C S : Nat} {σ : PS} {Q : Rs → PS → Prop} {x0 : Int32} {l1 : Option Value}
    (h : WP g C S 90 49 [some (.int x0), l1] [.int x0] σ Q) :
    WP g C S 90 48 [some (.int x0), l1] [] σ Q := by
  refine r_g (pc' := 49) (ls' := [some (.int x0), l1]) (st' := [.int x0]) dX6_folded_48 (fun _ => rfl) ?_
  exact h
theorem b90_49 {g : Nat → Nat} {C S : Nat} {σ : PS} {Q : Rs → PS → Prop} {l0 : Option Value} {l1 : Option Value} {u0 : Int32}
    (h : Q (Sum.inl (some (.int u0))) σ) :
    WP g C S 90 49 [l0, l1] [.int u0] σ Q := by
  exact r_ret dX6_folded_49 rfl h
