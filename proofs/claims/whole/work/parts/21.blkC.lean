theorem b0_0 {g : Nat → Nat} {C S : Nat} {σ : PS} {Q : Rs → PS → Prop} {r0 : Nat} {x1 : Int32} {x2 : Int32} {l3 : Option Value}
    (h : zN σ + 1 ≤ C ∧ zS σ + 2 ≤ S ∧ (∀ τ1, τ1 = alO σ 7 2 → WP g C S 52 0 [some (.ref (zN σ))] [] τ1 (KK g C S 0 12 [some (.ref r0), some (.int x1), some (.int x2), l3] [.ref (zN σ), .ref r0] Q false))) :
    WP g C S 0 0 [some (.ref r0), some (.int x1), some (.int x2), l3] [] σ Q := by
  refine r_g (pc' := 1) (ls' := [some (.ref r0), some (.int x1), some (.int x2), l3]) (st' := [.ref r0]) dX0_init_0 (fun _ => rfl) ?_
  refine r_oi dX0_init_1 rfl ⟨Nat.le_of_ble_eq_true rfl, Nat.le_of_ble_eq_true rfl, Nat.le_of_ble_eq_true rfl⟩ ?_
  refine r_g (pc' := 5) (ls' := [some (.ref r0), some (.int x1), some (.int x2), l3]) (st' := [.ref r0]) dX0_init_4 (fun _ => rfl) ?_
  obtain ⟨hC, hS, h⟩ := h
  refine r_new (N := 2) dX0_init_5 rfl (by decide) rfl hC hS ?_
  generalize eτ1 : alO σ (6 + 1) 2 = τ1
  replace h := h _ eτ1.symm
  refine r_g (pc' := 9) (ls' := [some (.ref r0), some (.int x1), some (.int x2), l3]) (st' := [.ref (zN σ), .ref (zN σ), .ref r0]) dX0_init_8 (fun _ => rfl) ?_
  exact r_call (th := false) dX0_init_9 (fun _ => ex_calI rfl (by decide)) rfl (Nat.le_of_ble_eq_true rfl) (Nat.le_of_ble_eq_true rfl) (Nat.le_of_ble_eq_true rfl) rfl rfl rfl rfl (fun q => nomatch q) h
theorem b0_12 {g : Nat → Nat} {C S : Nat} {σ : PS} {Q : Rs → PS → Prop} {r0 : Nat} {x1 : Int32} {x2 : Int32} {l3 : Option Value} {w0 : Nat} {w1 : Nat}
    (h : zK σ w1 = 2 ∧ (∀ τ1, τ1 = stP σ w1 2 (some w0) → ∃ n2 : Nat, 8 = nI n2 ∧ n2 ≤ 100000 ∧ zN τ1 + 1 ≤ C ∧ zS τ1 + n2 ≤ S ∧ (∀ τ3, τ3 = alA τ1 103 n2 → zK τ3 r0 = 2 ∧ (∀ τ4, τ4 = stP τ3 r0 3 (some (zN τ1)) → zK τ4 r0 = 2 ∧ (∀ τ5, τ5 = stP τ4 r0 4 none → zK τ5 r0 = 2 ∧ (∀ τ6, τ6 = stI τ5 r0 0 x1 → ((x2 : Int32) < 0 → WP g C S 0 44 [some (.ref r0), some (.int x1), some (.int x2), l3] [.ref r0] τ6 Q) ∧ (¬ ((x2 : Int32) < 0) → ((x2 : Int32) ≤ 4 → WP g C S 0 49 [some (.ref r0), some (.int x1), some (.int x2), l3] [.int x2, .ref r0] τ6 Q) ∧ (¬ ((x2 : Int32) ≤ 4) → WP g C S 0 44 [some (.ref r0), some (.int x1), some (.int x2), l3] [.ref r0] τ6 Q)))))))) :
    WP g C S 0 12 [some (.ref r0), some (.int x1), some (.int x2), l3] [.ref w0, .ref w1] σ Q := by
  obtain ⟨hK, h⟩ := h
  refine r_putP dX0_init_12 rfl (by decide) (Or.inr ⟨rfl, rfl⟩) rfl hK ?_
  generalize eτ1 : stP σ w1 2 (some w0) = τ1
  replace h := h _ eτ1.symm
  refine r_g (pc' := 16) (ls' := [some (.ref r0), some (.int x1), some (.int x2), l3]) (st' := [.ref r0]) dX0_init_15 (fun _ => rfl) ?_
  refine r_bi (v := 8) dX0_init_16 (by decide) ?_
  obtain ⟨n2, hj, hn, hC, hS, h⟩ := h
  refine r_anew (κ := 103) dX0_init_18 rfl (Or.inl rfl) rfl hj hn hC hS ?_
  generalize eτ3 : alA τ1 103 n2 = τ3
  replace h := h _ eτ3.symm
  obtain ⟨hK, h⟩ := h
  refine r_putP dX0_init_21 rfl (by decide) (Or.inr ⟨rfl, rfl⟩) rfl hK ?_
  generalize eτ4 : stP τ3 r0 3 (some (zN τ1)) = τ4
  replace h := h _ eτ4.symm
  refine r_g (pc' := 25) (ls' := [some (.ref r0), some (.int x1), some (.int x2), l3]) (st' := [.ref r0]) dX0_init_24 (fun _ => rfl) ?_
  refine r_g (pc' := 26) (ls' := [some (.ref r0), some (.int x1), some (.int x2), l3]) (st' := [.null, .ref r0]) dX0_init_25 (fun _ => rfl) ?_
  obtain ⟨hK, h⟩ := h
  refine r_putN dX0_init_26 rfl (by decide) (Or.inl rfl) rfl hK ?_
  generalize eτ5 : stP τ4 r0 4 none = τ5
  replace h := h _ eτ5.symm
  refine r_g (pc' := 30) (ls' := [some (.ref r0), some (.int x1), some (.int x2), l3]) (st' := [.ref r0]) dX0_init_29 (fun _ => rfl) ?_
  refine r_g (pc' := 31) (ls' := [some (.ref r0), some (.int x1), some (.int x2), l3]) (st' := [.int x1, .ref r0]) dX0_init_30 (fun _ => rfl) ?_
  obtain ⟨hK, h⟩ := h
  refine r_putI dX0_init_31 rfl (by decide) (Or.inr ⟨rfl, rfl⟩) rfl (Or.inl rfl) hK ?_
  generalize eτ6 : stI τ5 r0 0 x1 = τ6
  replace h := h _ eτ6.symm
  refine r_g (pc' := 35) (ls' := [some (.ref r0), some (.int x1), some (.int x2), l3]) (st' := [.ref r0]) dX0_init_34 (fun _ => rfl) ?_
  refine r_g (pc' := 36) (ls' := [some (.ref r0), some (.int x1), some (.int x2), l3]) (st' := [.int x2, .ref r0]) dX0_init_35 (fun _ => rfl) ?_
  obtain ⟨h1, h2⟩ := h
  refine r_if (t := 44) dX0_init_36 (by decide) c_lt (fun c => ?_) (fun c => ?_)
  · have h := h1 c
    exact h
  · have h := h2 c
    refine r_g (pc' := 40) (ls' := [some (.ref r0), some (.int x1), some (.int x2), l3]) (st' := [.int x2, .ref r0]) dX0_init_39 (fun _ => rfl) ?_
    refine r_ic (v := 4) dX0_init_40 (by decide) ?_
    obtain ⟨h1, h2⟩ := h
    refine r_icmp (t := 48) dX0_init_41 (by decide) c_le (fun c => ?_) (fun c => ?_)
    · have h := h1 c
      refine r_g (pc' := 49) (ls' := [some (.ref r0), some (.int x1), some (.int x2), l3]) (st' := [.int x2, .ref r0]) dX0_init_48 (fun _ => rfl) ?_
      exact h
    · have h := h2 c
      exact h
theorem b0_44 {g : Nat → Nat} {C S : Nat} {σ : PS} {Q : Rs → PS → Prop} {r0 : Nat} {l1 : Option Value} {l2 : Option Value} {l3 : Option Value} {w0 : Nat}
    (h : WP g C S 0 49 [some (.ref r0), l1, l2, l3] [.int 4, .ref w0] σ Q) :
    WP g C S 0 44 [some (.ref r0), l1, l2, l3] [.ref w0] σ Q := by
  refine r_ic (v := 4) dX0_init_44 (by decide) ?_
  refine r_goto (t := 49) dX0_init_45 (by decide) ?_
  exact h
theorem b0_49 {g : Nat → Nat} {C S : Nat} {σ : PS} {Q : Rs → PS → Prop} {r0 : Nat} {l1 : Option Value} {l2 : Option Value} {l3 : Option Value} {u0 : Int32} {w1 : Nat}
    (h : zK σ w1 = 2 ∧ (∀ τ1, τ1 = stI σ w1 1 u0 → WP g C S 0 54 [some (.ref r0), l1, (clr l2), some (.int 0)] [] τ1 Q)) :
    WP g C S 0 49 [some (.ref r0), l1, l2, l3] [.int u0, .ref w1] σ Q := by
  obtain ⟨hK, h⟩ := h
  refine r_putI dX0_init_49 rfl (by decide) (Or.inr ⟨rfl, rfl⟩) rfl (Or.inl rfl) hK ?_
  generalize eτ1 : stI σ w1 1 u0 = τ1
  replace h := h _ eτ1.symm
  refine r_ic (v := 0) dX0_init_52 (by decide) ?_
  refine r_g (pc' := 54) (ls' := [some (.ref r0), l1, (clr l2), some (.int 0)]) (st' := []) dX0_init_53 (fun _ => rfl) ?_
  exact h
theorem b0_54 {g : Nat → Nat} {C S : Nat} {σ : PS} {Q : Rs → PS → Prop} {r0 : Nat} {l1 : Option Value} {l2 : Option Value} {x3 : Int32}
    (h : ((8 : Int32) ≤ x3 → Q (Sum.inl none) σ) ∧ (¬ ((8 : Int32) ≤ x3) → zK σ r0 = 2 ∧ ∃ b1, zP σ r0 3 = some b1 ∧ (zN σ + 1 ≤ C ∧ zS σ + 2 ≤ S ∧ (∀ τ2, τ2 = alO σ 7 2 → WP g C S 52 0 [some (.ref (zN σ))] [] τ2 (KK g C S 0 72 [some (.ref r0), l1, l2, some (.int x3)] [.ref (zN σ), .int x3, .ref b1] Q false))))) :
    WP g C S 0 54 [some (.ref r0), l1, l2, some (.int x3)] [] σ Q := by
  refine r_g (pc' := 55) (ls' := [some (.ref r0), l1, l2, some (.int x3)]) (st' := [.int x3]) dX0_init_54 (fun _ => rfl) ?_
  refine r_bi (v := 8) dX0_init_55 (by decide) ?_
  obtain ⟨h1, h2⟩ := h
  refine r_icmp (t := 79) dX0_init_57 (by decide) c_ge (fun c => ?_) (fun c => ?_)
  · have h := h1 c
    exact r_vret dX0_init_79 rfl h
  · have h := h2 c
    refine r_g (pc' := 61) (ls' := [some (.ref r0), l1, l2, some (.int x3)]) (st' := [.ref r0]) dX0_init_60 (fun _ => rfl) ?_
    obtain ⟨hK, b1, hP, h⟩ := h
    refine r_getP dX0_init_61 rfl (by decide) rfl hK hP ?_
    refine r_g (pc' := 65) (ls' := [some (.ref r0), l1, l2, some (.int x3)]) (st' := [.int x3, .ref b1]) dX0_init_64 (fun _ => rfl) ?_
    obtain ⟨hC, hS, h⟩ := h
    refine r_new (N := 2) dX0_init_65 rfl (by decide) rfl hC hS ?_
    generalize eτ2 : alO σ (6 + 1) 2 = τ2
    replace h := h _ eτ2.symm
    refine r_g (pc' := 69) (ls' := [some (.ref r0), l1, l2, some (.int x3)]) (st' := [.ref (zN σ), .ref (zN σ), .int x3, .ref b1]) dX0_init_68 (fun _ => rfl) ?_
    exact r_call (th := false) dX0_init_69 (fun _ => ex_calI rfl (by decide)) rfl (Nat.le_of_ble_eq_true rfl) (Nat.le_of_ble_eq_true rfl) (Nat.le_of_ble_eq_true rfl) rfl rfl rfl rfl (fun q => nomatch q) h
theorem b0_72 {g : Nat → Nat} {C S : Nat} {σ : PS} {Q : Rs → PS → Prop} {r0 : Nat} {l1 : Option Value} {l2 : Option Value} {x3 : Int32} {w0 : Nat} {u1 : Int32} {w2 : Nat}
    (h : ∃ n1 : Nat, u1 = nI n1 ∧ n1 < 2147483648 ∧ ((zK σ w2 = 103 ∧ zK σ w0 = 7) ∨ (zK σ w2 = 104 ∧ 1 ≤ zK σ w0 ∧ zK σ w0 ≤ 9)) ∧ n1 < zL σ w2 ∧ (∀ τ2, τ2 = stP σ w2 n1 (some w0) → WP g C S 0 54 [some (.ref r0), l1, (clr l2), some (.int (x3 + 1))] [] τ2 Q)) :
    WP g C S 0 72 [some (.ref r0), l1, l2, some (.int x3)] [.ref w0, .int u1, .ref w2] σ Q := by
  obtain ⟨n1, hj, hn, hK, hL, h⟩ := h
  refine r_aast dX0_init_72 hj hn hK hL ?_
  generalize eτ2 : stP σ w2 n1 (some w0) = τ2
  replace h := h _ eτ2.symm
  refine r_inc (v := 1) (ls' := [some (.ref r0), l1, (clr l2), some (.int (x3 + 1))]) dX0_init_73 rfl (Nat.le_of_ble_eq_true rfl) (by decide) rfl ?_
  refine r_goto (t := 54) dX0_init_76 (by decide) ?_
  exact h
theorem b1_0 {g : Nat → Nat} {C S : Nat} {σ : PS} {Q : Rs → PS → Prop} {r0 : Nat} {x1 : Int32}
    (h : zK σ r0 = 2 ∧ ∃ b1, zP σ r0 3 = some b1 ∧ (∃ n2 : Nat, x1 &&& 7 = nI n2 ∧ n2 < 2147483648 ∧ (zK σ b1 = 103 ∨ zK σ b1 = 104) ∧ n2 < zL σ b1 ∧ ∃ b3, zP σ b1 n2 = some b3 ∧ (Q (Sum.inl (some (.ref b3))) σ))) :
    WP g C S 1 0 [some (.ref r0), some (.int x1)] [] σ Q := by
  refine r_g (pc' := 1) (ls' := [some (.ref r0), some (.int x1)]) (st' := [.ref r0]) dX0_own_0 (fun _ => rfl) ?_
  obtain ⟨hK, b1, hP, h⟩ := h
  refine r_getP dX0_own_1 rfl (by decide) rfl hK hP ?_
  refine r_g (pc' := 5) (ls' := [some (.ref r0), some (.int x1)]) (st' := [.int x1, .ref b1]) dX0_own_4 (fun _ => rfl) ?_
  refine r_bi (v := 7) dX0_own_5 (by decide) ?_
  refine r_g (pc' := 8) (ls' := [some (.ref r0), some (.int x1)]) (st' := [.int (x1 &&& 7), .ref b1]) dX0_own_7 (fun _ => rfl) ?_
  obtain ⟨n2, hj, hn, hK, hL, b3, hP, h⟩ := h
  refine r_aald dX0_own_8 hj hn hK hL hP ?_
  exact r_aret dX0_own_9 rfl h
theorem b2_0 {g : Nat → Nat} {C S : Nat} {σ : PS} {Q : Rs → PS → Prop} {r0 : Nat} {x1 : Int32}
    (h : zK σ r0 = 2 ∧ WP g C S 3 0 [some (.ref r0), some (.int x1), none, none, none, none] [] σ (KK g C S 2 5 [some (.ref r0), some (.int x1)] [] Q false)) :
    WP g C S 2 0 [some (.ref r0), some (.int x1)] [] σ Q := by
  refine r_g (pc' := 1) (ls' := [some (.ref r0), some (.int x1)]) (st' := [.ref r0]) dX0_has_0 (fun _ => rfl) ?_
  refine r_g (pc' := 2) (ls' := [some (.ref r0), some (.int x1)]) (st' := [.int x1, .ref r0]) dX0_has_1 (fun _ => rfl) ?_
  obtain ⟨hK, h⟩ := h
  exact r_call (th := false) dX0_has_2 (fun _ => ex_calV rfl (by decide)) rfl (Nat.le_of_ble_eq_true rfl) (Nat.le_of_ble_eq_true rfl) (Nat.le_of_ble_eq_true rfl) (rcv0 rfl rfl (by decide) hK) rfl rfl rfl (fun q => nomatch q) h
theorem b2_5 {g : Nat → Nat} {C S : Nat} {σ : PS} {Q : Rs → PS → Prop} {l0 : Option Value} {l1 : Option Value} {w0 : Nat}
    (h : zK σ w0 = 7 ∧ WP g C S 55 0 [some (.ref w0)] [] σ (KK g C S 2 8 [l0, l1] [] Q false)) :
    WP g C S 2 5 [l0, l1] [.ref w0] σ Q := by
  obtain ⟨hK, h⟩ := h
  exact r_call (th := false) dX0_has_5 (fun _ => ex_calV rfl (by decide)) rfl (Nat.le_of_ble_eq_true rfl) (Nat.le_of_ble_eq_true rfl) (Nat.le_of_ble_eq_true rfl) (rcv0 rfl rfl (by decide) hK) rfl rfl rfl (fun q => nomatch q) h
theorem b2_8 {g : Nat → Nat} {C S : Nat} {σ : PS} {Q : Rs → PS → Prop} {l0 : Option Value} {l1 : Option Value} {u0 : Int32}
    (h : (¬ (u0 : Int32) = 0 → WP g C S 2 16 [l0, l1] [.int 0] σ Q) ∧ (¬ (¬ (u0 : Int32) = 0) → WP g C S 2 16 [l0, l1] [.int 1] σ Q)) :
    WP g C S 2 8 [l0, l1] [.int u0] σ Q := by
  obtain ⟨h1, h2⟩ := h
  refine r_if (t := 15) dX0_has_8 (by decide) c_ne (fun c => ?_) (fun c => ?_)
  · have h := h1 c
    refine r_ic (v := 0) dX0_has_15 (by decide) ?_
    exact h
  · have h := h2 c
    refine r_ic (v := 1) dX0_has_11 (by decide) ?_
    refine r_goto (t := 16) dX0_has_12 (by decide) ?_
    exact h
theorem b2_16 {g : Nat → Nat} {C S : Nat} {σ : PS} {Q : Rs → PS → Prop} {l0 : Option Value} {l1 : Option Value} {u0 : Int32}
    (h : ((u0 : Int32) = 0 ∨ u0 = 1) ∧ Q (Sum.inl (some (.int u0))) σ) :
    WP g C S 2 16 [l0, l1] [.int u0] σ Q := by
  obtain ⟨hn, h⟩ := h
  exact r_ret dX0_has_16 (by rcases hn with q | q <;> rw [q] <;> rfl) h
theorem b4_0 {g : Nat → Nat} {C S : Nat} {σ : PS} {Q : Rs → PS → Prop} {r0 : Nat} {r1 : Nat} {l2 : Option Value} {l3 : Option Value}
    (h : WP g C S 4 4 [some (.ref r0), some (.ref r1), some (.ref r0), some (.int 0)] [] σ Q) :
    WP g C S 4 0 [some (.ref r0), some (.ref r1), l2, l3] [] σ Q := by
  refine r_g (pc' := 1) (ls' := [some (.ref r0), some (.ref r1), l2, l3]) (st' := [.ref r0]) dX0_leadsTo_0 (fun _ => rfl) ?_
  refine r_g (pc' := 2) (ls' := [some (.ref r0), some (.ref r1), some (.ref r0), l3]) (st' := []) dX0_leadsTo_1 (fun _ => rfl) ?_
  refine r_ic (v := 0) dX0_leadsTo_2 (by decide) ?_
  refine r_g (pc' := 4) (ls' := [some (.ref r0), some (.ref r1), some (.ref r0), some (.int 0)]) (st' := []) dX0_leadsTo_3 (fun _ => rfl) ?_
  exact h
theorem b4_4N {g : Nat → Nat} {C S : Nat} {σ : PS} {Q : Rs → PS → Prop} {l0 : Option Value} {r1 : Nat} {x3 : Int32}
    (h : ((24 : Int32) ≤ x3 → WP g C S 4 32 [l0, some (.ref r1), some .null, some (.int x3)] [] σ Q) ∧ (¬ ((24 : Int32) ≤ x3) → WP g C S 4 32 [l0, some (.ref r1), some .null, some (.int x3)] [] σ Q)) :
    WP g C S 4 4 [l0, some (.ref r1), some .null, some (.int x3)] [] σ Q := by
  refine r_g (pc' := 5) (ls' := [l0, some (.ref r1), some .null, some (.int x3)]) (st' := [.int x3]) dX0_leadsTo_4 (fun _ => rfl) ?_
  refine r_bi (v := 24) dX0_leadsTo_5 (by decide) ?_
  obtain ⟨h1, h2⟩ := h
  refine r_icmp (t := 32) dX0_leadsTo_7 (by decide) c_ge (fun c => ?_) (fun c => ?_)
  · have h := h1 c
    exact h
  · have h := h2 c
    refine r_g (pc' := 11) (ls' := [l0, some (.ref r1), some .null, some (.int x3)]) (st' := [.null]) dX0_leadsTo_10 (fun _ => rfl) ?_
    refine r_nullN (t := 32) dX0_leadsTo_11 (by decide) ?_
    exact h
theorem b4_4R {g : Nat → Nat} {C S : Nat} {σ : PS} {Q : Rs → PS → Prop} {l0 : Option Value} {r1 : Nat} {r2 : Nat} {x3 : Int32}
    (h : ((24 : Int32) ≤ x3 → WP g C S 4 32 [l0, some (.ref r1), some (.ref r2), some (.int x3)] [] σ Q) ∧ (¬ ((24 : Int32) ≤ x3) → (¬ (r2 = r1) → zK σ r2 = 2 ∧ (zP σ r2 4 = none → WP g C S 4 4 [l0, some (.ref r1), some .null, some (.int (x3 + 1))] [] σ Q) ∧ (∀ b1, zP σ r2 4 = some b1 → WP g C S 4 4 [l0, some (.ref r1), some (.ref b1), some (.int (x3 + 1))] [] σ Q)) ∧ (r2 = r1 → Q (Sum.inl (some (.int 1))) σ))) :
    WP g C S 4 4 [l0, some (.ref r1), some (.ref r2), some (.int x3)] [] σ Q := by
  refine r_g (pc' := 5) (ls' := [l0, some (.ref r1), some (.ref r2), some (.int x3)]) (st' := [.int x3]) dX0_leadsTo_4 (fun _ => rfl) ?_
  refine r_bi (v := 24) dX0_leadsTo_5 (by decide) ?_
  obtain ⟨h1, h2⟩ := h
  refine r_icmp (t := 32) dX0_leadsTo_7 (by decide) c_ge (fun c => ?_) (fun c => ?_)
  · have h := h1 c
    exact h
  · have h := h2 c
    refine r_g (pc' := 11) (ls' := [l0, some (.ref r1), some (.ref r2), some (.int x3)]) (st' := [.ref r2]) dX0_leadsTo_10 (fun _ => rfl) ?_
    refine r_nullR dX0_leadsTo_11 ?_
    refine r_g (pc' := 15) (ls' := [l0, some (.ref r1), some (.ref r2), some (.int x3)]) (st' := [.ref r2]) dX0_leadsTo_14 (fun _ => rfl) ?_
    refine r_g (pc' := 16) (ls' := [l0, some (.ref r1), some (.ref r2), some (.int x3)]) (st' := [.ref r1, .ref r2]) dX0_leadsTo_15 (fun _ => rfl) ?_
    obtain ⟨h1, h2⟩ := h
    refine r_ane (t := 21) dX0_leadsTo_16 (by decide) (fun c => ?_) (fun c => ?_)
    · have h := h1 c
      refine r_g (pc' := 22) (ls' := [l0, some (.ref r1), some (.ref r2), some (.int x3)]) (st' := [.ref r2]) dX0_leadsTo_21 (fun _ => rfl) ?_
      obtain ⟨hK, h1, h2⟩ := h
      cases hP : zP σ r2 4 with
      | none =>
        have h := h1 hP
        refine r_getN dX0_leadsTo_22 rfl (by decide) rfl hK hP ?_
        refine r_g (pc' := 26) (ls' := [l0, some (.ref r1), some .null, some (.int x3)]) (st' := []) dX0_leadsTo_25 (fun _ => rfl) ?_
        refine r_inc (v := 1) (ls' := [l0, some (.ref r1), some .null, some (.int (x3 + 1))]) dX0_leadsTo_26 rfl (Nat.le_of_ble_eq_true rfl) (by decide) rfl ?_
        refine r_goto (t := 4) dX0_leadsTo_29 (by decide) ?_
        exact h
      | some b1 =>
        have h := h2 b1 hP
        refine r_getP dX0_leadsTo_22 rfl (by decide) rfl hK hP ?_
        refine r_g (pc' := 26) (ls' := [l0, some (.ref r1), some (.ref b1), some (.int x3)]) (st' := []) dX0_leadsTo_25 (fun _ => rfl) ?_
        refine r_inc (v := 1) (ls' := [l0, some (.ref r1), some (.ref b1), some (.int (x3 + 1))]) dX0_leadsTo_26 rfl (Nat.le_of_ble_eq_true rfl) (by decide) rfl ?_
        refine r_goto (t := 4) dX0_leadsTo_29 (by decide) ?_
        exact h
    · have h := h2 c
      refine r_ic (v := 1) dX0_leadsTo_19 (by decide) ?_
      exact r_ret dX0_leadsTo_20 rfl h
theorem b4_32 {g : Nat → Nat} {C S : Nat} {σ : PS} {Q : Rs → PS → Prop} {l0 : Option Value} {l1 : Option Value} {l2 : Option Value} {l3 : Option Value}
    (h : Q (Sum.inl (some (.int 0))) σ) :
    WP g C S 4 32 [l0, l1, l2, l3] [] σ Q := by
  refine r_ic (v := 0) dX0_leadsTo_32 (by decide) ?_
  exact r_ret dX0_leadsTo_33 rfl h
theorem b16_0 {g : Nat → Nat} {C S : Nat} {σ : PS} {Q : Rs → PS → Prop} {r0 : Nat}
    (h : zK σ r0 = 4 ∧ (∀ τ1, τ1 = stI σ r0 0 0 → zK τ1 r0 = 4 ∧ (∀ τ2, τ2 = stI τ1 r0 1 0 → zK τ2 r0 = 4 ∧ (∀ τ3, τ3 = stI τ2 r0 2 0 → zK τ3 r0 = 4 ∧ (∀ τ4, τ4 = stI τ3 r0 3 0 → zK τ4 r0 = 4 ∧ (∀ τ5, τ5 = stI τ4 r0 4 0 → Q (Sum.inl none) τ5)))))) :
    WP g C S 16 0 [some (.ref r0)] [] σ Q := by
  refine r_g (pc' := 1) (ls' := [some (.ref r0)]) (st' := [.ref r0]) dX2_init_0 (fun _ => rfl) ?_
  refine r_oi dX2_init_1 rfl ⟨Nat.le_of_ble_eq_true rfl, Nat.le_of_ble_eq_true rfl, Nat.le_of_ble_eq_true rfl⟩ ?_
  refine r_g (pc' := 5) (ls' := [some (.ref r0)]) (st' := [.ref r0]) dX2_init_4 (fun _ => rfl) ?_
  refine r_ic (v := 0) dX2_init_5 (by decide) ?_
  obtain ⟨hK, h⟩ := h
  refine r_putI dX2_init_6 rfl (by decide) (Or.inl rfl) rfl (Or.inl rfl) hK ?_
  generalize eτ1 : stI σ r0 0 0 = τ1
  replace h := h _ eτ1.symm
  refine r_g (pc' := 10) (ls' := [some (.ref r0)]) (st' := [.ref r0]) dX2_init_9 (fun _ => rfl) ?_
  refine r_ic (v := 0) dX2_init_10 (by decide) ?_
  obtain ⟨hK, h⟩ := h
  refine r_putI dX2_init_11 rfl (by decide) (Or.inl rfl) rfl (Or.inl rfl) hK ?_
  generalize eτ2 : stI τ1 r0 1 0 = τ2
  replace h := h _ eτ2.symm
  refine r_g (pc' := 15) (ls' := [some (.ref r0)]) (st' := [.ref r0]) dX2_init_14 (fun _ => rfl) ?_
  refine r_ic (v := 0) dX2_init_15 (by decide) ?_
  obtain ⟨hK, h⟩ := h
  refine r_putI dX2_init_16 rfl (by decide) (Or.inl rfl) rfl (Or.inl rfl) hK ?_
  generalize eτ3 : stI τ2 r0 2 0 = τ3
  replace h := h _ eτ3.symm
  refine r_g (pc' := 20) (ls' := [some (.ref r0)]) (st' := [.ref r0]) dX2_init_19 (fun _ => rfl) ?_
  refine r_ic (v := 0) dX2_init_20 (by decide) ?_
  obtain ⟨hK, h⟩ := h
  refine r_putI dX2_init_21 rfl (by decide) (Or.inl rfl) rfl (Or.inl rfl) hK ?_
  generalize eτ4 : stI τ3 r0 3 0 = τ4
  replace h := h _ eτ4.symm
  refine r_g (pc' := 25) (ls' := [some (.ref r0)]) (st' := [.ref r0]) dX2_init_24 (fun _ => rfl) ?_
  refine r_ic (v := 0) dX2_init_25 (by decide) ?_
  obtain ⟨hK, h⟩ := h
  refine r_putI dX2_init_26 rfl (by decide) (Or.inl rfl) rfl (Or.inl rfl) hK ?_
  generalize eτ5 : stI τ4 r0 4 0 = τ5
  replace h := h _ eτ5.symm
  exact r_vret dX2_init_29 rfl h
theorem b17_0 {g : Nat → Nat} {C S : Nat} {σ : PS} {Q : Rs → PS → Prop} {r0 : Nat}
    (h : zK σ r0 = 4 ∧ zK σ r0 = 4 ∧ ((zI σ r0 1 : Int32) ≤ (zI σ r0 0) → WP g C S 17 16 [some (.ref r0)] [.int 0] σ Q) ∧ (¬ ((zI σ r0 1 : Int32) ≤ (zI σ r0 0)) → WP g C S 17 16 [some (.ref r0)] [.int 1] σ Q)) :
    WP g C S 17 0 [some (.ref r0)] [] σ Q := by
  refine r_g (pc' := 1) (ls' := [some (.ref r0)]) (st' := [.ref r0]) dX2_hasGiven_0 (fun _ => rfl) ?_
  obtain ⟨hK, h⟩ := h
  refine r_getI dX2_hasGiven_1 rfl (by decide) rfl hK ?_
  refine r_g (pc' := 5) (ls' := [some (.ref r0)]) (st' := [.ref r0, .int (zI σ r0 0)]) dX2_hasGiven_4 (fun _ => rfl) ?_
  obtain ⟨hK, h⟩ := h
  refine r_getI dX2_hasGiven_5 rfl (by decide) rfl hK ?_
  obtain ⟨h1, h2⟩ := h
  refine r_icmp (t := 15) dX2_hasGiven_8 (by decide) c_ge (fun c => ?_) (fun c => ?_)
  · have h := h1 c
    refine r_ic (v := 0) dX2_hasGiven_15 (by decide) ?_
    exact h
  · have h := h2 c
    refine r_ic (v := 1) dX2_hasGiven_11 (by decide) ?_
    refine r_goto (t := 16) dX2_hasGiven_12 (by decide) ?_
    exact h
theorem b17_16 {g : Nat → Nat} {C S : Nat} {σ : PS} {Q : Rs → PS → Prop} {l0 : Option Value} {u0 : Int32}
    (h : ((u0 : Int32) = 0 ∨ u0 = 1) ∧ Q (Sum.inl (some (.int u0))) σ) :
    WP g C S 17 16 [l0] [.int u0] σ Q := by
  obtain ⟨hn, h⟩ := h
  exact r_ret dX2_hasGiven_16 (by rcases hn with q | q <;> rw [q] <;> rfl) h
theorem b18_0 {g : Nat → Nat} {C S : Nat} {σ : PS} {Q : Rs → PS → Prop} {r0 : Nat}
    (h : zN σ + 1 ≤ C ∧ zS σ + 2 ≤ S ∧ (∀ τ1, τ1 = alO σ 7 2 → WP g C S 52 0 [some (.ref (zN σ))] [] τ1 (KK g C S 18 12 [some (.ref r0)] [.ref (zN σ), .ref r0] Q false))) :
    WP g C S 18 0 [some (.ref r0)] [] σ Q := by
  refine r_g (pc' := 1) (ls' := [some (.ref r0)]) (st' := [.ref r0]) dX3_init_0 (fun _ => rfl) ?_
  refine r_oi dX3_init_1 rfl ⟨Nat.le_of_ble_eq_true rfl, Nat.le_of_ble_eq_true rfl, Nat.le_of_ble_eq_true rfl⟩ ?_
  refine r_g (pc' := 5) (ls' := [some (.ref r0)]) (st' := [.ref r0]) dX3_init_4 (fun _ => rfl) ?_
  obtain ⟨hC, hS, h⟩ := h
  refine r_new (N := 2) dX3_init_5 rfl (by decide) rfl hC hS ?_
  generalize eτ1 : alO σ (6 + 1) 2 = τ1
  replace h := h _ eτ1.symm
  refine r_g (pc' := 9) (ls' := [some (.ref r0)]) (st' := [.ref (zN σ), .ref (zN σ), .ref r0]) dX3_init_8 (fun _ => rfl) ?_
  exact r_call (th := false) dX3_init_9 (fun _ => ex_calI rfl (by decide)) rfl (Nat.le_of_ble_eq_true rfl) (Nat.le_of_ble_eq_true rfl) (Nat.le_of_ble_eq_true rfl) rfl rfl rfl rfl (fun q => nomatch q) h
theorem b18_12 {g : Nat → Nat} {C S : Nat} {σ : PS} {Q : Rs → PS → Prop} {r0 : Nat} {w0 : Nat} {w1 : Nat}
    (h : zK σ w1 = 5 ∧ (∀ τ1, τ1 = stP σ w1 0 (some w0) → ∃ n2 : Nat, 40 = nI n2 ∧ n2 ≤ 100000 ∧ zN τ1 + 1 ≤ C ∧ zS τ1 + n2 ≤ S ∧ (∀ τ3, τ3 = alA τ1 101 n2 → zK τ3 r0 = 5 ∧ (∀ τ4, τ4 = stP τ3 r0 1 (some (zN τ1)) → ∃ n5 : Nat, 40 = nI n5 ∧ n5 ≤ 100000 ∧ zN τ4 + 1 ≤ C ∧ zS τ4 + n5 ≤ S ∧ (∀ τ6, τ6 = alA τ4 101 n5 → zK τ6 r0 = 5 ∧ (∀ τ7, τ7 = stP τ6 r0 2 (some (zN τ4)) → zK τ7 r0 = 5 ∧ (∀ τ8, τ8 = stI τ7 r0 3 0 → zN τ8 + 1 ≤ C ∧ zS τ8 + 3 ≤ S ∧ (∀ τ9, τ9 = alO τ8 1 3 → WP g C S 158 0 [some (.ref (zN τ8))] [] τ9 (KK g C S 18 44 [some (.ref r0)] [.ref (zN τ8), .ref r0] Q false))))))))) :
    WP g C S 18 12 [some (.ref r0)] [.ref w0, .ref w1] σ Q := by
  obtain ⟨hK, h⟩ := h
  refine r_putP dX3_init_12 rfl (by decide) (Or.inl rfl) rfl hK ?_
  generalize eτ1 : stP σ w1 0 (some w0) = τ1
  replace h := h _ eτ1.symm
  refine r_g (pc' := 16) (ls' := [some (.ref r0)]) (st' := [.ref r0]) dX3_init_15 (fun _ => rfl) ?_
  refine r_bi (v := 40) dX3_init_16 (by decide) ?_
  obtain ⟨n2, hj, hn, hC, hS, h⟩ := h
  refine r_newI dX3_init_18 hj hn hC hS ?_
  generalize eτ3 : alA τ1 101 n2 = τ3
  replace h := h _ eτ3.symm
  obtain ⟨hK, h⟩ := h
  refine r_putP dX3_init_20 rfl (by decide) (Or.inr ⟨rfl, rfl⟩) rfl hK ?_
  generalize eτ4 : stP τ3 r0 1 (some (zN τ1)) = τ4
  replace h := h _ eτ4.symm
  refine r_g (pc' := 24) (ls' := [some (.ref r0)]) (st' := [.ref r0]) dX3_init_23 (fun _ => rfl) ?_
  refine r_bi (v := 40) dX3_init_24 (by decide) ?_
  obtain ⟨n5, hj, hn, hC, hS, h⟩ := h
  refine r_newI dX3_init_26 hj hn hC hS ?_
  generalize eτ6 : alA τ4 101 n5 = τ6
  replace h := h _ eτ6.symm
  obtain ⟨hK, h⟩ := h
  refine r_putP dX3_init_28 rfl (by decide) (Or.inr ⟨rfl, rfl⟩) rfl hK ?_
  generalize eτ7 : stP τ6 r0 2 (some (zN τ4)) = τ7
  replace h := h _ eτ7.symm
  refine r_g (pc' := 32) (ls' := [some (.ref r0)]) (st' := [.ref r0]) dX3_init_31 (fun _ => rfl) ?_
  refine r_ic (v := 0) dX3_init_32 (by decide) ?_
  obtain ⟨hK, h⟩ := h
  refine r_putI dX3_init_33 rfl (by decide) (Or.inl rfl) rfl (Or.inl rfl) hK ?_
  generalize eτ8 : stI τ7 r0 3 0 = τ8
  replace h := h _ eτ8.symm
  refine r_g (pc' := 37) (ls' := [some (.ref r0)]) (st' := [.ref r0]) dX3_init_36 (fun _ => rfl) ?_
  obtain ⟨hC, hS, h⟩ := h
  refine r_new (N := 3) dX3_init_37 rfl (by decide) rfl hC hS ?_
  generalize eτ9 : alO τ8 (0 + 1) 3 = τ9
  replace h := h _ eτ9.symm
  refine r_g (pc' := 41) (ls' := [some (.ref r0)]) (st' := [.ref (zN τ8), .ref (zN τ8), .ref r0]) dX3_init_40 (fun _ => rfl) ?_
  exact r_call (th := false) dX3_init_41 (fun _ => ex_calI rfl (by decide)) rfl (Nat.le_of_ble_eq_true rfl) (Nat.le_of_ble_eq_true rfl) (Nat.le_of_ble_eq_true rfl) rfl rfl rfl rfl (fun q => nomatch q) h
theorem b18_44 {g : Nat → Nat} {C S : Nat} {σ : PS} {Q : Rs → PS → Prop} {r0 : Nat} {w0 : Nat} {w1 : Nat}
    (h : zK σ w1 = 5 ∧ (∀ τ1, τ1 = stP σ w1 4 (some w0) → zN τ1 + 1 ≤ C ∧ zS τ1 + 5 ≤ S ∧ (∀ τ2, τ2 = alO τ1 4 5 → WP g C S 16 0 [some (.ref (zN τ1))] [] τ2 (KK g C S 18 55 [some (.ref r0)] [.ref (zN τ1), .ref r0] Q false)))) :
    WP g C S 18 44 [some (.ref r0)] [.ref w0, .ref w1] σ Q := by
  obtain ⟨hK, h⟩ := h
  refine r_putP dX3_init_44 rfl (by decide) (Or.inr ⟨rfl, rfl⟩) rfl hK ?_
  generalize eτ1 : stP σ w1 4 (some w0) = τ1
  replace h := h _ eτ1.symm
  refine r_g (pc' := 48) (ls' := [some (.ref r0)]) (st' := [.ref r0]) dX3_init_47 (fun _ => rfl) ?_
  obtain ⟨hC, hS, h⟩ := h
  refine r_new (N := 5) dX3_init_48 rfl (by decide) rfl hC hS ?_
  generalize eτ2 : alO τ1 (3 + 1) 5 = τ2
  replace h := h _ eτ2.symm
  refine r_g (pc' := 52) (ls' := [some (.ref r0)]) (st' := [.ref (zN τ1), .ref (zN τ1), .ref r0]) dX3_init_51 (fun _ => rfl) ?_
  exact r_call (th := false) dX3_init_52 (fun _ => ex_calI rfl (by decide)) rfl (Nat.le_of_ble_eq_true rfl) (Nat.le_of_ble_eq_true rfl) (Nat.le_of_ble_eq_true rfl) rfl rfl rfl rfl (fun q => nomatch q) h
theorem b18_55 {g : Nat → Nat} {C S : Nat} {σ : PS} {Q : Rs → PS → Prop} {r0 : Nat} {w0 : Nat} {w1 : Nat}
    (h : zK σ w1 = 5 ∧ (∀ τ1, τ1 = stP σ w1 5 (some w0) → zK τ1 r0 = 5 ∧ (∀ τ2, τ2 = stI τ1 r0 6 0 → Q (Sum.inl none) τ2))) :
    WP g C S 18 55 [some (.ref r0)] [.ref w0, .ref w1] σ Q := by
  obtain ⟨hK, h⟩ := h
  refine r_putP dX3_init_55 rfl (by decide) (Or.inr ⟨rfl, rfl⟩) rfl hK ?_
  generalize eτ1 : stP σ w1 5 (some w0) = τ1
  replace h := h _ eτ1.symm
  refine r_g (pc' := 59) (ls' := [some (.ref r0)]) (st' := [.ref r0]) dX3_init_58 (fun _ => rfl) ?_
  refine r_ic (v := 0) dX3_init_59 (by decide) ?_
  obtain ⟨hK, h⟩ := h
  refine r_putI dX3_init_60 rfl (by decide) (Or.inl rfl) rfl (Or.inl rfl) hK ?_
  generalize eτ2 : stI τ1 r0 6 0 = τ2
  replace h := h _ eτ2.symm
  exact r_vret dX3_init_63 rfl h
theorem b19_0 {g : Nat → Nat} {C S : Nat} {σ : PS} {Q : Rs → PS → Prop} {r0 : Nat}
    (h : zK σ r0 = 5 ∧ Q (Sum.inl (some (.int (zI σ r0 6)))) σ) :
    WP g C S 19 0 [some (.ref r0)] [] σ Q := by
  refine r_g (pc' := 1) (ls' := [some (.ref r0)]) (st' := [.ref r0]) dX3_size_0 (fun _ => rfl) ?_
  obtain ⟨hK, h⟩ := h
  refine r_getI dX3_size_1 rfl (by decide) rfl hK ?_
  exact r_ret dX3_size_4 rfl h
theorem b20_0 {g : Nat → Nat} {C S : Nat} {σ : PS} {Q : Rs → PS → Prop} {r0 : Nat} {r1 : Nat} {l2 : Option Value} {l3 : Option Value} {l4 : Option Value}
    (h : zK σ r0 = 5 ∧ (∀ τ1, τ1 = stP σ r0 0 (some r1) → zK τ1 r0 = 5 ∧ (∀ τ2, τ2 = stI τ1 r0 3 0 → zK τ2 r0 = 5 ∧ (∀ τ3, τ3 = stI τ2 r0 6 0 → WP g C S 20 22 [some (.ref r0), some (.ref r1), some (.int 0), some (.int 0), some (.int 0)] [] τ3 Q)))) :
    WP g C S 20 0 [some (.ref r0), some (.ref r1), l2, l3, l4] [] σ Q := by
  refine r_g (pc' := 1) (ls' := [some (.ref r0), some (.ref r1), l2, l3, l4]) (st' := [.ref r0]) dX3_read_0 (fun _ => rfl) ?_
  refine r_g (pc' := 2) (ls' := [some (.ref r0), some (.ref r1), l2, l3, l4]) (st' := [.ref r1, .ref r0]) dX3_read_1 (fun _ => rfl) ?_
  obtain ⟨hK, h⟩ := h
  refine r_putP dX3_read_2 rfl (by decide) (Or.inl rfl) rfl hK ?_
  generalize eτ1 : stP σ r0 0 (some r1) = τ1
  replace h := h _ eτ1.symm
  refine r_g (pc' := 6) (ls' := [some (.ref r0), some (.ref r1), l2, l3, l4]) (st' := [.ref r0]) dX3_read_5 (fun _ => rfl) ?_
  refine r_ic (v := 0) dX3_read_6 (by decide) ?_
  obtain ⟨hK, h⟩ := h
  refine r_putI dX3_read_7 rfl (by decide) (Or.inl rfl) rfl (Or.inl rfl) hK ?_
  generalize eτ2 : stI τ1 r0 3 0 = τ2
  replace h := h _ eτ2.symm
  refine r_g (pc' := 11) (ls' := [some (.ref r0), some (.ref r1), l2, l3, l4]) (st' := [.ref r0]) dX3_read_10 (fun _ => rfl) ?_
  refine r_ic (v := 0) dX3_read_11 (by decide) ?_
  obtain ⟨hK, h⟩ := h
  refine r_putI dX3_read_12 rfl (by decide) (Or.inl rfl) rfl (Or.inl rfl) hK ?_
  generalize eτ3 : stI τ2 r0 6 0 = τ3
  replace h := h _ eτ3.symm
  refine r_ic (v := 0) dX3_read_15 (by decide) ?_
  refine r_g (pc' := 17) (ls' := [some (.ref r0), some (.ref r1), some (.int 0), l3, l4]) (st' := []) dX3_read_16 (fun _ => rfl) ?_
  refine r_ic (v := 0) dX3_read_17 (by decide) ?_
  refine r_g (pc' := 19) (ls' := [some (.ref r0), some (.ref r1), some (.int 0), some (.int 0), l4]) (st' := []) dX3_read_18 (fun _ => rfl) ?_
  refine r_ic (v := 0) dX3_read_19 (by decide) ?_
  refine r_g (pc' := 22) (ls' := [some (.ref r0), some (.ref r1), some (.int 0), some (.int 0), some (.int 0)]) (st' := []) dX3_read_20 (fun _ => rfl) ?_
  exact h
theorem b20_22 {g : Nat → Nat} {C S : Nat} {σ : PS} {Q : Rs → PS → Prop} {r0 : Nat} {r1 : Nat} {x2 : Int32} {x3 : Int32} {x4 : Int32}
    (h : zK σ r1 = 7 ∧ WP g C S 54 0 [some (.ref r1)] [] σ (KK g C S 20 28 [some (.ref r0), some (.ref r1), some (.int x2), some (.int x3), some (.int x4)] [.int x4] Q false)) :
    WP g C S 20 22 [some (.ref r0), some (.ref r1), some (.int x2), some (.int x3), some (.int x4)] [] σ Q := by
  refine r_g (pc' := 24) (ls' := [some (.ref r0), some (.ref r1), some (.int x2), some (.int x3), some (.int x4)]) (st' := [.int x4]) dX3_read_22 (fun _ => rfl) ?_
  refine r_g (pc' := 25) (ls' := [some (.ref r0), some (.ref r1), some (.int x2), some (.int x3), some (.int x4)]) (st' := [.ref r1, .int x4]) dX3_read_24 (fun _ => rfl) ?_
  obtain ⟨hK, h⟩ := h
  exact r_call (th := false) dX3_read_25 (fun _ => ex_calV rfl (by decide)) rfl (Nat.le_of_ble_eq_true rfl) (Nat.le_of_ble_eq_true rfl) (Nat.le_of_ble_eq_true rfl) (rcv0 rfl rfl (by decide) hK) rfl rfl rfl (fun q => nomatch q) h
theorem b20_28 {g : Nat → Nat} {C S : Nat} {σ : PS} {Q : Rs → PS → Prop} {r0 : Nat} {r1 : Nat} {x2 : Int32} {x3 : Int32} {x4 : Int32} {u0 : Int32} {u1 : Int32}
    (h : ((u0 : Int32) < u1 → zK σ r1 = 7 ∧ WP g C S 54 0 [some (.ref r1)] [] σ (KK g C S 20 87 [some (.ref r0), some (.ref r1), some (.int x2), some (.int x3), some (.int x4)] [.int x2, .ref r0] Q false)) ∧ (¬ ((u0 : Int32) < u1) → zK σ r1 = 7 ∧ WP g C S 54 0 [some (.ref r1)] [] σ (KK g C S 20 37 [some (.ref r0), some (.ref r1), some (.int x2), some (.int x3), some (.int x4)] [.int x4] Q false))) :
    WP g C S 20 28 [some (.ref r0), some (.ref r1), some (.int x2), some (.int x3), some (.int x4)] [.int u0, .int u1] σ Q := by
  obtain ⟨h1, h2⟩ := h
  refine r_icmp (t := 81) dX3_read_28 (by decide) c_gt (fun c => ?_) (fun c => ?_)
  · have h := h1 c
    refine r_g (pc' := 82) (ls' := [some (.ref r0), some (.ref r1), some (.int x2), some (.int x3), some (.int x4)]) (st' := [.ref r0]) dX3_read_81 (fun _ => rfl) ?_
    refine r_g (pc' := 83) (ls' := [some (.ref r0), some (.ref r1), some (.int x2), some (.int x3), some (.int x4)]) (st' := [.int x2, .ref r0]) dX3_read_82 (fun _ => rfl) ?_
    refine r_g (pc' := 84) (ls' := [some (.ref r0), some (.ref r1), some (.int x2), some (.int x3), some (.int x4)]) (st' := [.ref r1, .int x2, .ref r0]) dX3_read_83 (fun _ => rfl) ?_
    obtain ⟨hK, h⟩ := h
    exact r_call (th := false) dX3_read_84 (fun _ => ex_calV rfl (by decide)) rfl (Nat.le_of_ble_eq_true rfl) (Nat.le_of_ble_eq_true rfl) (Nat.le_of_ble_eq_true rfl) (rcv0 rfl rfl (by decide) hK) rfl rfl rfl (fun q => nomatch q) h
  · have h := h2 c
    refine r_g (pc' := 33) (ls' := [some (.ref r0), some (.ref r1), some (.int x2), some (.int x3), some (.int x4)]) (st' := [.int x4]) dX3_read_31 (fun _ => rfl) ?_
    refine r_g (pc' := 34) (ls' := [some (.ref r0), some (.ref r1), some (.int x2), some (.int x3), some (.int x4)]) (st' := [.ref r1, .int x4]) dX3_read_33 (fun _ => rfl) ?_
    obtain ⟨hK, h⟩ := h
    exact r_call (th := false) dX3_read_34 (fun _ => ex_calV rfl (by decide)) rfl (Nat.le_of_ble_eq_true rfl) (Nat.le_of_ble_eq_true rfl) (Nat.le_of_ble_eq_true rfl) (rcv0 rfl rfl (by decide) hK) rfl rfl rfl (fun q => nomatch q) h
theorem b20_37 {g : Nat → Nat} {C S : Nat} {σ : PS} {Q : Rs → PS → Prop} {r0 : Nat} {r1 : Nat} {x2 : Int32} {x3 : Int32} {x4 : Int32} {u0 : Int32} {u1 : Int32}
    (h : ((u1 : Int32) = u0 → WP g C S 20 51 [some (.ref r0), some (.ref r1), some (.int x2), some (.int x3), some (.int x4)] [] σ Q) ∧ (¬ ((u1 : Int32) = u0) → zK σ r1 = 7 ∧ WP g C S 56 0 [some (.ref r1), some (.int x4)] [] σ (KK g C S 20 46 [some (.ref r0), some (.ref r1), some (.int x2), some (.int x3), some (.int x4)] [] Q false))) :
    WP g C S 20 37 [some (.ref r0), some (.ref r1), some (.int x2), some (.int x3), some (.int x4)] [.int u0, .int u1] σ Q := by
  obtain ⟨h1, h2⟩ := h
  refine r_icmp (t := 51) dX3_read_37 (by decide) c_eq (fun c => ?_) (fun c => ?_)
  · have h := h1 c
    exact h
  · have h := h2 c
    refine r_g (pc' := 41) (ls' := [some (.ref r0), some (.ref r1), some (.int x2), some (.int x3), some (.int x4)]) (st' := [.ref r1]) dX3_read_40 (fun _ => rfl) ?_
    refine r_g (pc' := 43) (ls' := [some (.ref r0), some (.ref r1), some (.int x2), some (.int x3), some (.int x4)]) (st' := [.int x4, .ref r1]) dX3_read_41 (fun _ => rfl) ?_
    obtain ⟨hK, h⟩ := h
    exact r_call (th := false) dX3_read_43 (fun _ => ex_calV rfl (by decide)) rfl (Nat.le_of_ble_eq_true rfl) (Nat.le_of_ble_eq_true rfl) (Nat.le_of_ble_eq_true rfl) (rcv0 rfl rfl (by decide) hK) rfl rfl rfl (fun q => nomatch q) h
theorem b20_46 {g : Nat → Nat} {C S : Nat} {σ : PS} {Q : Rs → PS → Prop} {r0 : Nat} {r1 : Nat} {x2 : Int32} {x3 : Int32} {x4 : Int32} {u0 : Int32}
    (h : (¬ (u0 : Int32) = 32 → WP g C S 20 75 [some (.ref r0), some (.ref r1), some (.int x2), some (.int x3), some (.int x4)] [] σ Q) ∧ (¬ (¬ (u0 : Int32) = 32) → WP g C S 20 51 [some (.ref r0), some (.ref r1), some (.int x2), some (.int x3), some (.int x4)] [] σ Q)) :
    WP g C S 20 46 [some (.ref r0), some (.ref r1), some (.int x2), some (.int x3), some (.int x4)] [.int u0] σ Q := by
  refine r_bi (v := 32) dX3_read_46 (by decide) ?_
  obtain ⟨h1, h2⟩ := h
  refine r_icmp (t := 75) dX3_read_48 (by decide) c_ne (fun c => ?_) (fun c => ?_)
  · have h := h1 c
    exact h
  · have h := h2 c
    exact h
theorem b20_51 {g : Nat → Nat} {C S : Nat} {σ : PS} {Q : Rs → PS → Prop} {r0 : Nat} {r1 : Nat} {x2 : Int32} {x3 : Int32} {x4 : Int32}
    (h : zK σ r0 = 5 ∧ WP g C S 21 0 [some (.ref r0), some (.int x3), some (.int x4)] [] σ (KK g C S 20 58 [some (.ref r0), some (.ref r1), some (.int x2), some (.int x3), some (.int x4)] [] Q false)) :
    WP g C S 20 51 [some (.ref r0), some (.ref r1), some (.int x2), some (.int x3), some (.int x4)] [] σ Q := by
  refine r_g (pc' := 52) (ls' := [some (.ref r0), some (.ref r1), some (.int x2), some (.int x3), some (.int x4)]) (st' := [.ref r0]) dX3_read_51 (fun _ => rfl) ?_
  refine r_g (pc' := 53) (ls' := [some (.ref r0), some (.ref r1), some (.int x2), some (.int x3), some (.int x4)]) (st' := [.int x3, .ref r0]) dX3_read_52 (fun _ => rfl) ?_
  refine r_g (pc' := 55) (ls' := [some (.ref r0), some (.ref r1), some (.int x2), some (.int x3), some (.int x4)]) (st' := [.int x4, .int x3, .ref r0]) dX3_read_53 (fun _ => rfl) ?_
  obtain ⟨hK, h⟩ := h
  exact r_call (th := false) dX3_read_55 (fun _ => ex_calV rfl (by decide)) rfl (Nat.le_of_ble_eq_true rfl) (Nat.le_of_ble_eq_true rfl) (Nat.le_of_ble_eq_true rfl) (rcv0 rfl rfl (by decide) hK) rfl rfl rfl (fun q => nomatch q) h
theorem b20_58 {g : Nat → Nat} {C S : Nat} {σ : PS} {Q : Rs → PS → Prop} {r0 : Nat} {r1 : Nat} {x2 : Int32} {x3 : Int32} {x4 : Int32} {u0 : Int32}
    (h : ((u0 : Int32) = 0 → WP g C S 20 70 [some (.ref r0), some (.ref r1), some (.int x2), some (.int x3), some (.int x4)] [] σ Q) ∧ (¬ ((u0 : Int32) = 0) → zK σ r0 = 5 ∧ WP g C S 22 0 [some (.ref r0), some (.int x2), some (.int x3), none, none, none, none] [] σ (KK g C S 20 67 [some (.ref r0), some (.ref r1), some (.int x2), some (.int x3), some (.int x4)] [] Q false))) :
    WP g C S 20 58 [some (.ref r0), some (.ref r1), some (.int x2), some (.int x3), some (.int x4)] [.int u0] σ Q := by
  obtain ⟨h1, h2⟩ := h
  refine r_if (t := 70) dX3_read_58 (by decide) c_eq (fun c => ?_) (fun c => ?_)
  · have h := h1 c
    exact h
  · have h := h2 c
    refine r_g (pc' := 62) (ls' := [some (.ref r0), some (.ref r1), some (.int x2), some (.int x3), some (.int x4)]) (st' := [.ref r0]) dX3_read_61 (fun _ => rfl) ?_
    refine r_g (pc' := 63) (ls' := [some (.ref r0), some (.ref r1), some (.int x2), some (.int x3), some (.int x4)]) (st' := [.int x2, .ref r0]) dX3_read_62 (fun _ => rfl) ?_
    refine r_g (pc' := 64) (ls' := [some (.ref r0), some (.ref r1), some (.int x2), some (.int x3), some (.int x4)]) (st' := [.int x3, .int x2, .ref r0]) dX3_read_63 (fun _ => rfl) ?_
    obtain ⟨hK, h⟩ := h
    exact r_call (th := false) dX3_read_64 (fun _ => ex_calV rfl (by decide)) rfl (Nat.le_of_ble_eq_true rfl) (Nat.le_of_ble_eq_true rfl) (Nat.le_of_ble_eq_true rfl) (rcv0 rfl rfl (by decide) hK) rfl rfl rfl (fun q => nomatch q) h
theorem b20_67 {g : Nat → Nat} {C S : Nat} {σ : PS} {Q : Rs → PS → Prop} {r0 : Nat} {r1 : Nat} {l2 : Option Value} {l3 : Option Value} {x4 : Int32}
    (h : WP g C S 20 70 [some (.ref r0), some (.ref r1), some (.int x4), l3, some (.int x4)] [] σ Q) :
    WP g C S 20 67 [some (.ref r0), some (.ref r1), l2, l3, some (.int x4)] [] σ Q := by
  refine r_g (pc' := 69) (ls' := [some (.ref r0), some (.ref r1), l2, l3, some (.int x4)]) (st' := [.int x4]) dX3_read_67 (fun _ => rfl) ?_
  refine r_g (pc' := 70) (ls' := [some (.ref r0), some (.ref r1), some (.int x4), l3, some (.int x4)]) (st' := []) dX3_read_69 (fun _ => rfl) ?_
  exact h
theorem b20_70 {g : Nat → Nat} {C S : Nat} {σ : PS} {Q : Rs → PS → Prop} {r0 : Nat} {r1 : Nat} {x2 : Int32} {l3 : Option Value} {x4 : Int32}
    (h : WP g C S 20 75 [some (.ref r0), some (.ref r1), some (.int x2), some (.int (x4 + 1)), some (.int x4)] [] σ Q) :
    WP g C S 20 70 [some (.ref r0), some (.ref r1), some (.int x2), l3, some (.int x4)] [] σ Q := by
  refine r_g (pc' := 72) (ls' := [some (.ref r0), some (.ref r1), some (.int x2), l3, some (.int x4)]) (st' := [.int x4]) dX3_read_70 (fun _ => rfl) ?_
  refine r_ic (v := 1) dX3_read_72 (by decide) ?_
  refine r_g (pc' := 74) (ls' := [some (.ref r0), some (.ref r1), some (.int x2), l3, some (.int x4)]) (st' := [.int (x4 + 1)]) dX3_read_73 (fun _ => rfl) ?_
  refine r_g (pc' := 75) (ls' := [some (.ref r0), some (.ref r1), some (.int x2), some (.int (x4 + 1)), some (.int x4)]) (st' := []) dX3_read_74 (fun _ => rfl) ?_
  exact h
theorem b20_75 {g : Nat → Nat} {C S : Nat} {σ : PS} {Q : Rs → PS → Prop} {r0 : Nat} {r1 : Nat} {x2 : Int32} {x3 : Int32} {x4 : Int32}
    (h : WP g C S 20 22 [some (.ref r0), some (.ref r1), some (.int x2), some (.int x3), some (.int (x4 + 1))] [] σ Q) :
    WP g C S 20 75 [some (.ref r0), some (.ref r1), some (.int x2), some (.int x3), some (.int x4)] [] σ Q := by
  refine r_inc (v := 1) (ls' := [some (.ref r0), some (.ref r1), some (.int x2), some (.int x3), some (.int (x4 + 1))]) dX3_read_75 rfl (Nat.le_of_ble_eq_true rfl) (by decide) rfl ?_
  refine r_goto (t := 22) dX3_read_78 (by decide) ?_
  exact h
theorem b20_87 {g : Nat → Nat} {C S : Nat} {σ : PS} {Q : Rs → PS → Prop} {l0 : Option Value} {l1 : Option Value} {l2 : Option Value} {l3 : Option Value} {l4 : Option Value} {u0 : Int32} {u1 : Int32} {w2 : Nat}
    (h : zK σ w2 = 5 ∧ WP g C S 22 0 [some (.ref w2), some (.int u1), some (.int u0), none, none, none, none] [] σ (KK g C S 20 90 [l0, l1, l2, l3, l4] [] Q false)) :
    WP g C S 20 87 [l0, l1, l2, l3, l4] [.int u0, .int u1, .ref w2] σ Q := by
  obtain ⟨hK, h⟩ := h
  exact r_call (th := false) dX3_read_87 (fun _ => ex_calV rfl (by decide)) rfl (Nat.le_of_ble_eq_true rfl) (Nat.le_of_ble_eq_true rfl) (Nat.le_of_ble_eq_true rfl) (rcv0 rfl rfl (by decide) hK) rfl rfl rfl (fun q => nomatch q) h
theorem b20_90 {g : Nat → Nat} {C S : Nat} {σ : PS} {Q : Rs → PS → Prop} {l0 : Option Value} {l1 : Option Value} {l2 : Option Value} {l3 : Option Value} {l4 : Option Value}
    (h : Q (Sum.inl none) σ) :
    WP g C S 20 90 [l0, l1, l2, l3, l4] [] σ Q := by
  exact r_vret dX3_read_90 rfl h
theorem b21_0 {g : Nat → Nat} {C S : Nat} {σ : PS} {Q : Rs → PS → Prop} {r0 : Nat} {x1 : Int32} {x2 : Int32}
    (h : (¬ (x2 - x1 : Int32) = 3 → WP g C S 21 54 [some (.ref r0), some (.int x1), some (.int x2)] [] σ Q) ∧ (¬ (¬ (x2 - x1 : Int32) = 3) → zK σ r0 = 5 ∧ ∃ b1, zP σ r0 0 = some b1 ∧ (zK σ b1 = 7 ∧ WP g C S 56 0 [some (.ref b1), some (.int x1)] [] σ (KK g C S 21 15 [some (.ref r0), some (.int x1), some (.int x2)] [] Q false)))) :
    WP g C S 21 0 [some (.ref r0), some (.int x1), some (.int x2)] [] σ Q := by
  refine r_g (pc' := 1) (ls' := [some (.ref r0), some (.int x1), some (.int x2)]) (st' := [.int x2]) dX3_isAnd_0 (fun _ => rfl) ?_
  refine r_g (pc' := 2) (ls' := [some (.ref r0), some (.int x1), some (.int x2)]) (st' := [.int x1, .int x2]) dX3_isAnd_1 (fun _ => rfl) ?_
  refine r_g (pc' := 3) (ls' := [some (.ref r0), some (.int x1), some (.int x2)]) (st' := [.int (x2 - x1)]) dX3_isAnd_2 (fun _ => rfl) ?_
  refine r_ic (v := 3) dX3_isAnd_3 (by decide) ?_
  obtain ⟨h1, h2⟩ := h
  refine r_icmp (t := 54) dX3_isAnd_4 (by decide) c_ne (fun c => ?_) (fun c => ?_)
  · have h := h1 c
    exact h
  · have h := h2 c
    refine r_g (pc' := 8) (ls' := [some (.ref r0), some (.int x1), some (.int x2)]) (st' := [.ref r0]) dX3_isAnd_7 (fun _ => rfl) ?_
    obtain ⟨hK, b1, hP, h⟩ := h
    refine r_getP dX3_isAnd_8 rfl (by decide) rfl hK hP ?_
    refine r_g (pc' := 12) (ls' := [some (.ref r0), some (.int x1), some (.int x2)]) (st' := [.int x1, .ref b1]) dX3_isAnd_11 (fun _ => rfl) ?_
    obtain ⟨hK, h⟩ := h
    exact r_call (th := false) dX3_isAnd_12 (fun _ => ex_calV rfl (by decide)) rfl (Nat.le_of_ble_eq_true rfl) (Nat.le_of_ble_eq_true rfl) (Nat.le_of_ble_eq_true rfl) (rcv0 rfl rfl (by decide) hK) rfl rfl rfl (fun q => nomatch q) h
theorem b21_15 {g : Nat → Nat} {C S : Nat} {σ : PS} {Q : Rs → PS → Prop} {r0 : Nat} {x1 : Int32} {l2 : Option Value} {u0 : Int32}
    (h : (¬ (u0 : Int32) = 97 → WP g C S 21 54 [some (.ref r0), some (.int x1), l2] [] σ Q) ∧ (¬ (¬ (u0 : Int32) = 97) → zK σ r0 = 5 ∧ ∃ b1, zP σ r0 0 = some b1 ∧ (zK σ b1 = 7 ∧ WP g C S 56 0 [some (.ref b1), some (.int (x1 + 1))] [] σ (KK g C S 21 30 [some (.ref r0), some (.int x1), l2] [] Q false)))) :
    WP g C S 21 15 [some (.ref r0), some (.int x1), l2] [.int u0] σ Q := by
  refine r_bi (v := 97) dX3_isAnd_15 (by decide) ?_
  obtain ⟨h1, h2⟩ := h
  refine r_icmp (t := 54) dX3_isAnd_17 (by decide) c_ne (fun c => ?_) (fun c => ?_)
  · have h := h1 c
    exact h
  · have h := h2 c
    refine r_g (pc' := 21) (ls' := [some (.ref r0), some (.int x1), l2]) (st' := [.ref r0]) dX3_isAnd_20 (fun _ => rfl) ?_
    obtain ⟨hK, b1, hP, h⟩ := h
    refine r_getP dX3_isAnd_21 rfl (by decide) rfl hK hP ?_
    refine r_g (pc' := 25) (ls' := [some (.ref r0), some (.int x1), l2]) (st' := [.int x1, .ref b1]) dX3_isAnd_24 (fun _ => rfl) ?_
    refine r_ic (v := 1) dX3_isAnd_25 (by decide) ?_
    refine r_g (pc' := 27) (ls' := [some (.ref r0), some (.int x1), l2]) (st' := [.int (x1 + 1), .ref b1]) dX3_isAnd_26 (fun _ => rfl) ?_
    obtain ⟨hK, h⟩ := h
    exact r_call (th := false) dX3_isAnd_27 (fun _ => ex_calV rfl (by decide)) rfl (Nat.le_of_ble_eq_true rfl) (Nat.le_of_ble_eq_true rfl) (Nat.le_of_ble_eq_true rfl) (rcv0 rfl rfl (by decide) hK) rfl rfl rfl (fun q => nomatch q) h
theorem b21_30 {g : Nat → Nat} {C S : Nat} {σ : PS} {Q : Rs → PS → Prop} {r0 : Nat} {x1 : Int32} {l2 : Option Value} {u0 : Int32}
    (h : (¬ (u0 : Int32) = 110 → WP g C S 21 54 [some (.ref r0), some (.int x1), l2] [] σ Q) ∧ (¬ (¬ (u0 : Int32) = 110) → zK σ r0 = 5 ∧ ∃ b1, zP σ r0 0 = some b1 ∧ (zK σ b1 = 7 ∧ WP g C S 56 0 [some (.ref b1), some (.int (x1 + 2))] [] σ (KK g C S 21 45 [some (.ref r0), some (.int x1), l2] [] Q false)))) :
    WP g C S 21 30 [some (.ref r0), some (.int x1), l2] [.int u0] σ Q := by
  refine r_bi (v := 110) dX3_isAnd_30 (by decide) ?_
  obtain ⟨h1, h2⟩ := h
  refine r_icmp (t := 54) dX3_isAnd_32 (by decide) c_ne (fun c => ?_) (fun c => ?_)
  · have h := h1 c
    exact h
  · have h := h2 c
    refine r_g (pc' := 36) (ls' := [some (.ref r0), some (.int x1), l2]) (st' := [.ref r0]) dX3_isAnd_35 (fun _ => rfl) ?_
    obtain ⟨hK, b1, hP, h⟩ := h
    refine r_getP dX3_isAnd_36 rfl (by decide) rfl hK hP ?_
    refine r_g (pc' := 40) (ls' := [some (.ref r0), some (.int x1), l2]) (st' := [.int x1, .ref b1]) dX3_isAnd_39 (fun _ => rfl) ?_
    refine r_ic (v := 2) dX3_isAnd_40 (by decide) ?_
    refine r_g (pc' := 42) (ls' := [some (.ref r0), some (.int x1), l2]) (st' := [.int (x1 + 2), .ref b1]) dX3_isAnd_41 (fun _ => rfl) ?_
    obtain ⟨hK, h⟩ := h
    exact r_call (th := false) dX3_isAnd_42 (fun _ => ex_calV rfl (by decide)) rfl (Nat.le_of_ble_eq_true rfl) (Nat.le_of_ble_eq_true rfl) (Nat.le_of_ble_eq_true rfl) (rcv0 rfl rfl (by decide) hK) rfl rfl rfl (fun q => nomatch q) h
theorem b21_45 {g : Nat → Nat} {C S : Nat} {σ : PS} {Q : Rs → PS → Prop} {l0 : Option Value} {l1 : Option Value} {l2 : Option Value} {u0 : Int32}
    (h : (¬ (u0 : Int32) = 100 → WP g C S 21 54 [l0, l1, l2] [] σ Q) ∧ (¬ (¬ (u0 : Int32) = 100) → WP g C S 21 55 [l0, l1, l2] [.int 1] σ Q)) :
    WP g C S 21 45 [l0, l1, l2] [.int u0] σ Q := by
  refine r_bi (v := 100) dX3_isAnd_45 (by decide) ?_
  obtain ⟨h1, h2⟩ := h
  refine r_icmp (t := 54) dX3_isAnd_47 (by decide) c_ne (fun c => ?_) (fun c => ?_)
  · have h := h1 c
    exact h
  · have h := h2 c
    refine r_ic (v := 1) dX3_isAnd_50 (by decide) ?_
    refine r_goto (t := 55) dX3_isAnd_51 (by decide) ?_
    exact h
theorem b21_54 {g : Nat → Nat} {C S : Nat} {σ : PS} {Q : Rs → PS → Prop} {l0 : Option Value} {l1 : Option Value} {l2 : Option Value}
    (h : WP g C S 21 55 [l0, l1, l2] [.int 0] σ Q) :
    WP g C S 21 54 [l0, l1, l2] [] σ Q := by
  refine r_ic (v := 0) dX3_isAnd_54 (by decide) ?_
  exact h
theorem b21_55 {g : Nat → Nat} {C S : Nat} {σ : PS} {Q : Rs → PS → Prop} {l0 : Option Value} {l1 : Option Value} {l2 : Option Value} {u0 : Int32}
    (h : ((u0 : Int32) = 0 ∨ u0 = 1) ∧ Q (Sum.inl (some (.int u0))) σ) :
    WP g C S 21 55 [l0, l1, l2] [.int u0] σ Q := by
  obtain ⟨hn, h⟩ := h
  exact r_ret dX3_isAnd_55 (by rcases hn with q | q <;> rw [q] <;> rfl) h
theorem b22_0 {g : Nat → Nat} {C S : Nat} {σ : PS} {Q : Rs → PS → Prop} {r0 : Nat} {x1 : Int32} {x2 : Int32} {l3 : Option Value} {l4 : Option Value} {l5 : Option Value} {l6 : Option Value}
    (h : WP g C S 22 2 [some (.ref r0), some (.int x1), some (.int x2), some (.int x1), l4, l5, l6] [] σ Q) :
    WP g C S 22 0 [some (.ref r0), some (.int x1), some (.int x2), l3, l4, l5, l6] [] σ Q := by
  refine r_g (pc' := 1) (ls' := [some (.ref r0), some (.int x1), some (.int x2), l3, l4, l5, l6]) (st' := [.int x1]) dX3_readPerson_0 (fun _ => rfl) ?_
  refine r_g (pc' := 2) (ls' := [some (.ref r0), some (.int x1), some (.int x2), some (.int x1), l4, l5, l6]) (st' := []) dX3_readPerson_1 (fun _ => rfl) ?_
  exact h
theorem b22_2 {g : Nat → Nat} {C S : Nat} {σ : PS} {Q : Rs → PS → Prop} {r0 : Nat} {x1 : Int32} {x2 : Int32} {x3 : Int32} {l4 : Option Value} {l5 : Option Value} {l6 : Option Value}
    (h : ((x2 : Int32) ≤ x3 → WP g C S 22 26 [some (.ref r0), some (.int x1), some (.int x2), some (.int x3), l4, l5, l6] [] σ Q) ∧ (¬ ((x2 : Int32) ≤ x3) → zK σ r0 = 5 ∧ ∃ b1, zP σ r0 0 = some b1 ∧ (zK σ b1 = 7 ∧ WP g C S 56 0 [some (.ref b1), some (.int x3)] [] σ (KK g C S 22 15 [some (.ref r0), some (.int x1), some (.int x2), some (.int x3), l4, l5, l6] [] Q false)))) :
    WP g C S 22 2 [some (.ref r0), some (.int x1), some (.int x2), some (.int x3), l4, l5, l6] [] σ Q := by
  refine r_g (pc' := 3) (ls' := [some (.ref r0), some (.int x1), some (.int x2), some (.int x3), l4, l5, l6]) (st' := [.int x3]) dX3_readPerson_2 (fun _ => rfl) ?_
  refine r_g (pc' := 4) (ls' := [some (.ref r0), some (.int x1), some (.int x2), some (.int x3), l4, l5, l6]) (st' := [.int x2, .int x3]) dX3_readPerson_3 (fun _ => rfl) ?_
  obtain ⟨h1, h2⟩ := h
  refine r_icmp (t := 26) dX3_readPerson_4 (by decide) c_ge (fun c => ?_) (fun c => ?_)
  · have h := h1 c
    exact h
  · have h := h2 c
    refine r_g (pc' := 8) (ls' := [some (.ref r0), some (.int x1), some (.int x2), some (.int x3), l4, l5, l6]) (st' := [.ref r0]) dX3_readPerson_7 (fun _ => rfl) ?_
    obtain ⟨hK, b1, hP, h⟩ := h
    refine r_getP dX3_readPerson_8 rfl (by decide) rfl hK hP ?_
    refine r_g (pc' := 12) (ls' := [some (.ref r0), some (.int x1), some (.int x2), some (.int x3), l4, l5, l6]) (st' := [.int x3, .ref b1]) dX3_readPerson_11 (fun _ => rfl) ?_
    obtain ⟨hK, h⟩ := h
    exact r_call (th := false) dX3_readPerson_12 (fun _ => ex_calV rfl (by decide)) rfl (Nat.le_of_ble_eq_true rfl) (Nat.le_of_ble_eq_true rfl) (Nat.le_of_ble_eq_true rfl) (rcv0 rfl rfl (by decide) hK) rfl rfl rfl (fun q => nomatch q) h
theorem b22_15 {g : Nat → Nat} {C S : Nat} {σ : PS} {Q : Rs → PS → Prop} {r0 : Nat} {x1 : Int32} {x2 : Int32} {x3 : Int32} {l4 : Option Value} {l5 : Option Value} {l6 : Option Value} {u0 : Int32}
    (h : ((u0 : Int32) = 44 → WP g C S 22 26 [some (.ref r0), some (.int x1), some (.int x2), some (.int x3), l4, l5, l6] [] σ Q) ∧ (¬ ((u0 : Int32) = 44) → WP g C S 22 2 [some (.ref r0), some (.int x1), some (.int x2), some (.int (x3 + 1)), l4, l5, l6] [] σ Q)) :
    WP g C S 22 15 [some (.ref r0), some (.int x1), some (.int x2), some (.int x3), l4, l5, l6] [.int u0] σ Q := by
  refine r_bi (v := 44) dX3_readPerson_15 (by decide) ?_
  obtain ⟨h1, h2⟩ := h
  refine r_icmp (t := 26) dX3_readPerson_17 (by decide) c_eq (fun c => ?_) (fun c => ?_)
  · have h := h1 c
    exact h
  · have h := h2 c
    refine r_inc (v := 1) (ls' := [some (.ref r0), some (.int x1), some (.int x2), some (.int (x3 + 1)), l4, l5, l6]) dX3_readPerson_20 rfl (Nat.le_of_ble_eq_true rfl) (by decide) rfl ?_
    refine r_goto (t := 2) dX3_readPerson_23 (by decide) ?_
    exact h
theorem b22_26 {g : Nat → Nat} {C S : Nat} {σ : PS} {Q : Rs → PS → Prop} {r0 : Nat} {x1 : Int32} {x2 : Int32} {x3 : Int32} {l4 : Option Value} {l5 : Option Value} {l6 : Option Value}
    (h : zK σ r0 = 5 ∧ zK σ r0 = 5 ∧ WP g C S 23 0 [some (.ref r0), some (.int x1), some (.int x3), none, none] [] σ (KK g C S 22 38 [some (.ref r0), some (.int x1), some (.int x2), some (.int x3), some (.int (zI σ r0 3)), l5, l6] [] Q false)) :
    WP g C S 22 26 [some (.ref r0), some (.int x1), some (.int x2), some (.int x3), l4, l5, l6] [] σ Q := by
  refine r_g (pc' := 27) (ls' := [some (.ref r0), some (.int x1), some (.int x2), some (.int x3), l4, l5, l6]) (st' := [.ref r0]) dX3_readPerson_26 (fun _ => rfl) ?_
  obtain ⟨hK, h⟩ := h
  refine r_getI dX3_readPerson_27 rfl (by decide) rfl hK ?_
  refine r_g (pc' := 32) (ls' := [some (.ref r0), some (.int x1), some (.int x2), some (.int x3), some (.int (zI σ r0 3)), l5, l6]) (st' := []) dX3_readPerson_30 (fun _ => rfl) ?_
  refine r_g (pc' := 33) (ls' := [some (.ref r0), some (.int x1), some (.int x2), some (.int x3), some (.int (zI σ r0 3)), l5, l6]) (st' := [.ref r0]) dX3_readPerson_32 (fun _ => rfl) ?_
  refine r_g (pc' := 34) (ls' := [some (.ref r0), some (.int x1), some (.int x2), some (.int x3), some (.int (zI σ r0 3)), l5, l6]) (st' := [.int x1, .ref r0]) dX3_readPerson_33 (fun _ => rfl) ?_
  refine r_g (pc' := 35) (ls' := [some (.ref r0), some (.int x1), some (.int x2), some (.int x3), some (.int (zI σ r0 3)), l5, l6]) (st' := [.int x3, .int x1, .ref r0]) dX3_readPerson_34 (fun _ => rfl) ?_
  obtain ⟨hK, h⟩ := h
  exact r_call (th := false) dX3_readPerson_35 (fun _ => ex_calV rfl (by decide)) rfl (Nat.le_of_ble_eq_true rfl) (Nat.le_of_ble_eq_true rfl) (Nat.le_of_ble_eq_true rfl) (rcv0 rfl rfl (by decide) hK) rfl rfl rfl (fun q => nomatch q) h
theorem b22_38 {g : Nat → Nat} {C S : Nat} {σ : PS} {Q : Rs → PS → Prop} {r0 : Nat} {l1 : Option Value} {x2 : Int32} {x3 : Int32} {x4 : Int32} {l5 : Option Value} {l6 : Option Value}
    (h : zK σ r0 = 5 ∧ zK σ r0 = 5 ∧ WP g C S 23 0 [some (.ref r0), some (.int x3), some (.int x2), none, none] [] σ (KK g C S 22 50 [some (.ref r0), l1, some (.int x2), some (.int x3), some (.int x4), some (.int (zI σ r0 3)), l6] [] Q false)) :
    WP g C S 22 38 [some (.ref r0), l1, some (.int x2), some (.int x3), some (.int x4), l5, l6] [] σ Q := by
  refine r_g (pc' := 39) (ls' := [some (.ref r0), l1, some (.int x2), some (.int x3), some (.int x4), l5, l6]) (st' := [.ref r0]) dX3_readPerson_38 (fun _ => rfl) ?_
  obtain ⟨hK, h⟩ := h
  refine r_getI dX3_readPerson_39 rfl (by decide) rfl hK ?_
  refine r_g (pc' := 44) (ls' := [some (.ref r0), l1, some (.int x2), some (.int x3), some (.int x4), some (.int (zI σ r0 3)), l6]) (st' := []) dX3_readPerson_42 (fun _ => rfl) ?_
  refine r_g (pc' := 45) (ls' := [some (.ref r0), l1, some (.int x2), some (.int x3), some (.int x4), some (.int (zI σ r0 3)), l6]) (st' := [.ref r0]) dX3_readPerson_44 (fun _ => rfl) ?_
  refine r_g (pc' := 46) (ls' := [some (.ref r0), l1, some (.int x2), some (.int x3), some (.int x4), some (.int (zI σ r0 3)), l6]) (st' := [.int x3, .ref r0]) dX3_readPerson_45 (fun _ => rfl) ?_
  refine r_g (pc' := 47) (ls' := [some (.ref r0), l1, some (.int x2), some (.int x3), some (.int x4), some (.int (zI σ r0 3)), l6]) (st' := [.int x2, .int x3, .ref r0]) dX3_readPerson_46 (fun _ => rfl) ?_
  obtain ⟨hK, h⟩ := h
  exact r_call (th := false) dX3_readPerson_47 (fun _ => ex_calV rfl (by decide)) rfl (Nat.le_of_ble_eq_true rfl) (Nat.le_of_ble_eq_true rfl) (Nat.le_of_ble_eq_true rfl) (rcv0 rfl rfl (by decide) hK) rfl rfl rfl (fun q => nomatch q) h
theorem b22_50 {g : Nat → Nat} {C S : Nat} {σ : PS} {Q : Rs → PS → Prop} {r0 : Nat} {l1 : Option Value} {x2 : Int32} {x3 : Int32} {x4 : Int32} {x5 : Int32} {l6 : Option Value}
    (h : zK σ r0 = 5 ∧ ((zI σ r0 3 : Int32) ≤ x4 → WP g C S 22 91 [some (.ref r0), l1, some (.int x2), some (.int x3), some (.int x4), some (.int x5), l6] [] σ Q) ∧ (¬ ((zI σ r0 3 : Int32) ≤ x4) → zK σ r0 = 5 ∧ WP g C S 24 0 [some (.ref r0)] [] σ (KK g C S 22 63 [some (.ref r0), l1, some (.int x2), some (.int x3), some (.int x4), some (.int x5), l6] [] Q false))) :
    WP g C S 22 50 [some (.ref r0), l1, some (.int x2), some (.int x3), some (.int x4), some (.int x5), l6] [] σ Q := by
  refine r_g (pc' := 51) (ls' := [some (.ref r0), l1, some (.int x2), some (.int x3), some (.int x4), some (.int x5), l6]) (st' := [.ref r0]) dX3_readPerson_50 (fun _ => rfl) ?_
  obtain ⟨hK, h⟩ := h
  refine r_getI dX3_readPerson_51 rfl (by decide) rfl hK ?_
  refine r_g (pc' := 56) (ls' := [some (.ref r0), l1, some (.int x2), some (.int x3), some (.int x4), some (.int x5), l6]) (st' := [.int x4, .int (zI σ r0 3)]) dX3_readPerson_54 (fun _ => rfl) ?_
  obtain ⟨h1, h2⟩ := h
  refine r_icmp (t := 91) dX3_readPerson_56 (by decide) c_le (fun c => ?_) (fun c => ?_)
  · have h := h1 c
    exact h
  · have h := h2 c
    refine r_g (pc' := 60) (ls' := [some (.ref r0), l1, some (.int x2), some (.int x3), some (.int x4), some (.int x5), l6]) (st' := [.ref r0]) dX3_readPerson_59 (fun _ => rfl) ?_
    obtain ⟨hK, h⟩ := h
    exact r_call (th := false) dX3_readPerson_60 (fun _ => ex_calV rfl (by decide)) rfl (Nat.le_of_ble_eq_true rfl) (Nat.le_of_ble_eq_true rfl) (Nat.le_of_ble_eq_true rfl) (rcv0 rfl rfl (by decide) hK) rfl rfl rfl (fun q => nomatch q) h
theorem b22_63 {g : Nat → Nat} {C S : Nat} {σ : PS} {Q : Rs → PS → Prop} {r0 : Nat} {l1 : Option Value} {x2 : Int32} {x3 : Int32} {x4 : Int32} {x5 : Int32} {l6 : Option Value} {w0 : Nat}
    (h : ((x2 : Int32) ≤ x3 → zK σ r0 = 5 ∧ WP g C S 26 0 [some (.ref r0), some (.ref w0), some (.int x4), none, none, none] [] σ (KK g C S 22 91 [some (.ref r0), l1, some (.int x2), some (.int x3), some (.int x4), some (.int x5), some (.ref w0)] [] Q false)) ∧ (¬ ((x2 : Int32) ≤ x3) → zK σ r0 = 5 ∧ WP g C S 25 0 [some (.ref r0), some (.ref w0), some (.int x4), some (.int x5), none] [] σ (KK g C S 22 80 [some (.ref r0), l1, some (.int x2), some (.int x3), some (.int x4), some (.int x5), some (.ref w0)] [] Q false))) :
    WP g C S 22 63 [some (.ref r0), l1, some (.int x2), some (.int x3), some (.int x4), some (.int x5), l6] [.ref w0] σ Q := by
  refine r_g (pc' := 65) (ls' := [some (.ref r0), l1, some (.int x2), some (.int x3), some (.int x4), some (.int x5), some (.ref w0)]) (st' := []) dX3_readPerson_63 (fun _ => rfl) ?_
  refine r_g (pc' := 66) (ls' := [some (.ref r0), l1, some (.int x2), some (.int x3), some (.int x4), some (.int x5), some (.ref w0)]) (st' := [.int x3]) dX3_readPerson_65 (fun _ => rfl) ?_
  refine r_g (pc' := 67) (ls' := [some (.ref r0), l1, some (.int x2), some (.int x3), some (.int x4), some (.int x5), some (.ref w0)]) (st' := [.int x2, .int x3]) dX3_readPerson_66 (fun _ => rfl) ?_
  obtain ⟨h1, h2⟩ := h
  refine r_icmp (t := 83) dX3_readPerson_67 (by decide) c_ge (fun c => ?_) (fun c => ?_)
  · have h := h1 c
    refine r_g (pc' := 84) (ls' := [some (.ref r0), l1, some (.int x2), some (.int x3), some (.int x4), some (.int x5), some (.ref w0)]) (st' := [.ref r0]) dX3_readPerson_83 (fun _ => rfl) ?_
    refine r_g (pc' := 86) (ls' := [some (.ref r0), l1, some (.int x2), some (.int x3), some (.int x4), some (.int x5), some (.ref w0)]) (st' := [.ref w0, .ref r0]) dX3_readPerson_84 (fun _ => rfl) ?_
    refine r_g (pc' := 88) (ls' := [some (.ref r0), l1, some (.int x2), some (.int x3), some (.int x4), some (.int x5), some (.ref w0)]) (st' := [.int x4, .ref w0, .ref r0]) dX3_readPerson_86 (fun _ => rfl) ?_
    obtain ⟨hK, h⟩ := h
    exact r_call (th := false) dX3_readPerson_88 (fun _ => ex_calV rfl (by decide)) rfl (Nat.le_of_ble_eq_true rfl) (Nat.le_of_ble_eq_true rfl) (Nat.le_of_ble_eq_true rfl) (rcv0 rfl rfl (by decide) hK) rfl rfl rfl (fun q => nomatch q) h
  · have h := h2 c
    refine r_g (pc' := 71) (ls' := [some (.ref r0), l1, some (.int x2), some (.int x3), some (.int x4), some (.int x5), some (.ref w0)]) (st' := [.ref r0]) dX3_readPerson_70 (fun _ => rfl) ?_
    refine r_g (pc' := 73) (ls' := [some (.ref r0), l1, some (.int x2), some (.int x3), some (.int x4), some (.int x5), some (.ref w0)]) (st' := [.ref w0, .ref r0]) dX3_readPerson_71 (fun _ => rfl) ?_
    refine r_g (pc' := 75) (ls' := [some (.ref r0), l1, some (.int x2), some (.int x3), some (.int x4), some (.int x5), some (.ref w0)]) (st' := [.int x4, .ref w0, .ref r0]) dX3_readPerson_73 (fun _ => rfl) ?_
    refine r_g (pc' := 77) (ls' := [some (.ref r0), l1, some (.int x2), some (.int x3), some (.int x4), some (.int x5), some (.ref w0)]) (st' := [.int x5, .int x4, .ref w0, .ref r0]) dX3_readPerson_75 (fun _ => rfl) ?_
    obtain ⟨hK, h⟩ := h
    exact r_call (th := false) dX3_readPerson_77 (fun _ => ex_calV rfl (by decide)) rfl (Nat.le_of_ble_eq_true rfl) (Nat.le_of_ble_eq_true rfl) (Nat.le_of_ble_eq_true rfl) (rcv0 rfl rfl (by decide) hK) rfl rfl rfl (fun q => nomatch q) h
theorem b22_80 {g : Nat → Nat} {C S : Nat} {σ : PS} {Q : Rs → PS → Prop} {l0 : Option Value} {l1 : Option Value} {l2 : Option Value} {l3 : Option Value} {l4 : Option Value} {l5 : Option Value} {l6 : Option Value}
    (h : WP g C S 22 91 [l0, l1, l2, l3, l4, l5, l6] [] σ Q) :
    WP g C S 22 80 [l0, l1, l2, l3, l4, l5, l6] [] σ Q := by
  refine r_goto (t := 91) dX3_readPerson_80 (by decide) ?_
  exact h
theorem b22_91 {g : Nat → Nat} {C S : Nat} {σ : PS} {Q : Rs → PS → Prop} {l0 : Option Value} {l1 : Option Value} {l2 : Option Value} {l3 : Option Value} {l4 : Option Value} {l5 : Option Value} {l6 : Option Value}
    (h : Q (Sum.inl none) σ) :
    WP g C S 22 91 [l0, l1, l2, l3, l4, l5, l6] [] σ Q := by
  exact r_vret dX3_readPerson_91 rfl h
theorem b23_0 {g : Nat → Nat} {C S : Nat} {σ : PS} {Q : Rs → PS → Prop} {r0 : Nat} {x1 : Int32} {x2 : Int32} {l3 : Option Value} {l4 : Option Value}
    (h : WP g C S 23 5 [some (.ref r0), some (.int x1), some (.int x2), some (.int x1), some (.int x1)] [] σ Q) :
    WP g C S 23 0 [some (.ref r0), some (.int x1), some (.int x2), l3, l4] [] σ Q := by
  refine r_g (pc' := 1) (ls' := [some (.ref r0), some (.int x1), some (.int x2), l3, l4]) (st' := [.int x1]) dX3_readWords_0 (fun _ => rfl) ?_
  refine r_g (pc' := 2) (ls' := [some (.ref r0), some (.int x1), some (.int x2), some (.int x1), l4]) (st' := []) dX3_readWords_1 (fun _ => rfl) ?_
  refine r_g (pc' := 3) (ls' := [some (.ref r0), some (.int x1), some (.int x2), some (.int x1), l4]) (st' := [.int x1]) dX3_readWords_2 (fun _ => rfl) ?_
  refine r_g (pc' := 5) (ls' := [some (.ref r0), some (.int x1), some (.int x2), some (.int x1), some (.int x1)]) (st' := []) dX3_readWords_3 (fun _ => rfl) ?_
  exact h
theorem b23_5 {g : Nat → Nat} {C S : Nat} {σ : PS} {Q : Rs → PS → Prop} {r0 : Nat} {l1 : Option Value} {x2 : Int32} {x3 : Int32} {x4 : Int32}
    (h : ((x2 : Int32) < x4 → Q (Sum.inl none) σ) ∧ (¬ ((x2 : Int32) < x4) → ((x4 : Int32) = x2 → WP g C S 23 45 [some (.ref r0), l1, some (.int x2), some (.int x3), some (.int x4)] [] σ Q) ∧ (¬ ((x4 : Int32) = x2) → zK σ r0 = 5 ∧ ∃ b1, zP σ r0 0 = some b1 ∧ (zK σ b1 = 7 ∧ WP g C S 56 0 [some (.ref b1), some (.int x4)] [] σ (KK g C S 23 26 [some (.ref r0), l1, some (.int x2), some (.int x3), some (.int x4)] [] Q false))))) :
    WP g C S 23 5 [some (.ref r0), l1, some (.int x2), some (.int x3), some (.int x4)] [] σ Q := by
  refine r_g (pc' := 7) (ls' := [some (.ref r0), l1, some (.int x2), some (.int x3), some (.int x4)]) (st' := [.int x4]) dX3_readWords_5 (fun _ => rfl) ?_
  refine r_g (pc' := 8) (ls' := [some (.ref r0), l1, some (.int x2), some (.int x3), some (.int x4)]) (st' := [.int x2, .int x4]) dX3_readWords_7 (fun _ => rfl) ?_
  obtain ⟨h1, h2⟩ := h
  refine r_icmp (t := 102) dX3_readWords_8 (by decide) c_gt (fun c => ?_) (fun c => ?_)
  · have h := h1 c
    exact r_vret dX3_readWords_102 rfl h
  · have h := h2 c
    refine r_g (pc' := 13) (ls' := [some (.ref r0), l1, some (.int x2), some (.int x3), some (.int x4)]) (st' := [.int x4]) dX3_readWords_11 (fun _ => rfl) ?_
    refine r_g (pc' := 14) (ls' := [some (.ref r0), l1, some (.int x2), some (.int x3), some (.int x4)]) (st' := [.int x2, .int x4]) dX3_readWords_13 (fun _ => rfl) ?_
    obtain ⟨h1, h2⟩ := h
    refine r_icmp (t := 45) dX3_readWords_14 (by decide) c_eq (fun c => ?_) (fun c => ?_)
    · have h := h1 c
      exact h
    · have h := h2 c
      refine r_g (pc' := 18) (ls' := [some (.ref r0), l1, some (.int x2), some (.int x3), some (.int x4)]) (st' := [.ref r0]) dX3_readWords_17 (fun _ => rfl) ?_
      obtain ⟨hK, b1, hP, h⟩ := h
      refine r_getP dX3_readWords_18 rfl (by decide) rfl hK hP ?_
      refine r_g (pc' := 23) (ls' := [some (.ref r0), l1, some (.int x2), some (.int x3), some (.int x4)]) (st' := [.int x4, .ref b1]) dX3_readWords_21 (fun _ => rfl) ?_
      obtain ⟨hK, h⟩ := h
      exact r_call (th := false) dX3_readWords_23 (fun _ => ex_calV rfl (by decide)) rfl (Nat.le_of_ble_eq_true rfl) (Nat.le_of_ble_eq_true rfl) (Nat.le_of_ble_eq_true rfl) (rcv0 rfl rfl (by decide) hK) rfl rfl rfl (fun q => nomatch q) h
theorem b23_26 {g : Nat → Nat} {C S : Nat} {σ : PS} {Q : Rs → PS → Prop} {r0 : Nat} {l1 : Option Value} {x2 : Int32} {x3 : Int32} {x4 : Int32} {u0 : Int32}
    (h : ((u0 : Int32) = 32 → WP g C S 23 45 [some (.ref r0), l1, some (.int x2), some (.int x3), some (.int x4)] [] σ Q) ∧ (¬ ((u0 : Int32) = 32) → zK σ r0 = 5 ∧ ∃ b1, zP σ r0 0 = some b1 ∧ (zK σ b1 = 7 ∧ WP g C S 56 0 [some (.ref b1), some (.int x4)] [] σ (KK g C S 23 40 [some (.ref r0), l1, some (.int x2), some (.int x3), some (.int x4)] [] Q false)))) :
    WP g C S 23 26 [some (.ref r0), l1, some (.int x2), some (.int x3), some (.int x4)] [.int u0] σ Q := by
  refine r_bi (v := 32) dX3_readWords_26 (by decide) ?_
  obtain ⟨h1, h2⟩ := h
  refine r_icmp (t := 45) dX3_readWords_28 (by decide) c_eq (fun c => ?_) (fun c => ?_)
  · have h := h1 c
    exact h
  · have h := h2 c
    refine r_g (pc' := 32) (ls' := [some (.ref r0), l1, some (.int x2), some (.int x3), some (.int x4)]) (st' := [.ref r0]) dX3_readWords_31 (fun _ => rfl) ?_
    obtain ⟨hK, b1, hP, h⟩ := h
    refine r_getP dX3_readWords_32 rfl (by decide) rfl hK hP ?_
    refine r_g (pc' := 37) (ls' := [some (.ref r0), l1, some (.int x2), some (.int x3), some (.int x4)]) (st' := [.int x4, .ref b1]) dX3_readWords_35 (fun _ => rfl) ?_
    obtain ⟨hK, h⟩ := h
    exact r_call (th := false) dX3_readWords_37 (fun _ => ex_calV rfl (by decide)) rfl (Nat.le_of_ble_eq_true rfl) (Nat.le_of_ble_eq_true rfl) (Nat.le_of_ble_eq_true rfl) (rcv0 rfl rfl (by decide) hK) rfl rfl rfl (fun q => nomatch q) h
theorem b23_40 {g : Nat → Nat} {C S : Nat} {σ : PS} {Q : Rs → PS → Prop} {r0 : Nat} {l1 : Option Value} {x2 : Int32} {x3 : Int32} {x4 : Int32} {u0 : Int32}
    (h : (¬ (u0 : Int32) = 44 → WP g C S 23 96 [some (.ref r0), l1, some (.int x2), some (.int x3), some (.int x4)] [] σ Q) ∧ (¬ (¬ (u0 : Int32) = 44) → WP g C S 23 45 [some (.ref r0), l1, some (.int x2), some (.int x3), some (.int x4)] [] σ Q)) :
    WP g C S 23 40 [some (.ref r0), l1, some (.int x2), some (.int x3), some (.int x4)] [.int u0] σ Q := by
  refine r_bi (v := 44) dX3_readWords_40 (by decide) ?_
  obtain ⟨h1, h2⟩ := h
  refine r_icmp (t := 96) dX3_readWords_42 (by decide) c_ne (fun c => ?_) (fun c => ?_)
  · have h := h1 c
    exact h
  · have h := h2 c
    exact h
theorem b23_45 {g : Nat → Nat} {C S : Nat} {σ : PS} {Q : Rs → PS → Prop} {r0 : Nat} {l1 : Option Value} {x2 : Int32} {x3 : Int32} {x4 : Int32}
    (h : ((x4 : Int32) ≤ x3 → WP g C S 23 91 [some (.ref r0), l1, some (.int x2), some (.int x3), some (.int x4)] [] σ Q) ∧ (¬ ((x4 : Int32) ≤ x3) → zK σ r0 = 5 ∧ ((40 : Int32) ≤ (zI σ r0 3) → WP g C S 23 91 [some (.ref r0), l1, some (.int x2), some (.int x3), some (.int x4)] [] σ Q) ∧ (¬ ((40 : Int32) ≤ (zI σ r0 3)) → zK σ r0 = 5 ∧ ∃ b1, zP σ r0 1 = some b1 ∧ (zK σ r0 = 5 ∧ ∃ n2 : Nat, zI σ r0 3 = nI n2 ∧ n2 < 2147483648 ∧ zK σ b1 = 101 ∧ n2 < zL σ b1 ∧ (∀ τ3, τ3 = stI σ b1 n2 x3 → zK τ3 r0 = 5 ∧ ∃ b4, zP τ3 r0 2 = some b4 ∧ (zK τ3 r0 = 5 ∧ ∃ n5 : Nat, zI τ3 r0 3 = nI n5 ∧ n5 < 2147483648 ∧ zK τ3 b4 = 101 ∧ n5 < zL τ3 b4 ∧ (∀ τ6, τ6 = stI τ3 b4 n5 x4 → zK τ6 r0 = 5 ∧ zK τ6 r0 = 5 ∧ (∀ τ7, τ7 = stI τ6 r0 3 ((zI τ6 r0 3) + 1) → WP g C S 23 91 [some (.ref r0), l1, some (.int x2), some (.int x3), some (.int x4)] [] τ7 Q)))))))) :
    WP g C S 23 45 [some (.ref r0), l1, some (.int x2), some (.int x3), some (.int x4)] [] σ Q := by
  refine r_g (pc' := 47) (ls' := [some (.ref r0), l1, some (.int x2), some (.int x3), some (.int x4)]) (st' := [.int x4]) dX3_readWords_45 (fun _ => rfl) ?_
  refine r_g (pc' := 48) (ls' := [some (.ref r0), l1, some (.int x2), some (.int x3), some (.int x4)]) (st' := [.int x3, .int x4]) dX3_readWords_47 (fun _ => rfl) ?_
  obtain ⟨h1, h2⟩ := h
  refine r_icmp (t := 91) dX3_readWords_48 (by decide) c_le (fun c => ?_) (fun c => ?_)
  · have h := h1 c
    exact h
  · have h := h2 c
    refine r_g (pc' := 52) (ls' := [some (.ref r0), l1, some (.int x2), some (.int x3), some (.int x4)]) (st' := [.ref r0]) dX3_readWords_51 (fun _ => rfl) ?_
    obtain ⟨hK, h⟩ := h
    refine r_getI dX3_readWords_52 rfl (by decide) rfl hK ?_
    refine r_bi (v := 40) dX3_readWords_55 (by decide) ?_
    obtain ⟨h1, h2⟩ := h
    refine r_icmp (t := 91) dX3_readWords_57 (by decide) c_ge (fun c => ?_) (fun c => ?_)
    · have h := h1 c
      exact h
    · have h := h2 c
      refine r_g (pc' := 61) (ls' := [some (.ref r0), l1, some (.int x2), some (.int x3), some (.int x4)]) (st' := [.ref r0]) dX3_readWords_60 (fun _ => rfl) ?_
      obtain ⟨hK, b1, hP, h⟩ := h
      refine r_getP dX3_readWords_61 rfl (by decide) rfl hK hP ?_
      refine r_g (pc' := 65) (ls' := [some (.ref r0), l1, some (.int x2), some (.int x3), some (.int x4)]) (st' := [.ref r0, .ref b1]) dX3_readWords_64 (fun _ => rfl) ?_
      obtain ⟨hK, h⟩ := h
      refine r_getI dX3_readWords_65 rfl (by decide) rfl hK ?_
      refine r_g (pc' := 69) (ls' := [some (.ref r0), l1, some (.int x2), some (.int x3), some (.int x4)]) (st' := [.int x3, .int (zI σ r0 3), .ref b1]) dX3_readWords_68 (fun _ => rfl) ?_
      obtain ⟨n2, hj, hn, hK, hL, h⟩ := h
      refine r_iast dX3_readWords_69 hj hn hK hL ?_
      generalize eτ3 : stI σ b1 n2 x3 = τ3
      replace h := h _ eτ3.symm
      refine r_g (pc' := 71) (ls' := [some (.ref r0), l1, some (.int x2), some (.int x3), some (.int x4)]) (st' := [.ref r0]) dX3_readWords_70 (fun _ => rfl) ?_
      obtain ⟨hK, b4, hP, h⟩ := h
      refine r_getP dX3_readWords_71 rfl (by decide) rfl hK hP ?_
      refine r_g (pc' := 75) (ls' := [some (.ref r0), l1, some (.int x2), some (.int x3), some (.int x4)]) (st' := [.ref r0, .ref b4]) dX3_readWords_74 (fun _ => rfl) ?_
      obtain ⟨hK, h⟩ := h
      refine r_getI dX3_readWords_75 rfl (by decide) rfl hK ?_
      refine r_g (pc' := 80) (ls' := [some (.ref r0), l1, some (.int x2), some (.int x3), some (.int x4)]) (st' := [.int x4, .int (zI τ3 r0 3), .ref b4]) dX3_readWords_78 (fun _ => rfl) ?_
      obtain ⟨n5, hj, hn, hK, hL, h⟩ := h
      refine r_iast dX3_readWords_80 hj hn hK hL ?_
      generalize eτ6 : stI τ3 b4 n5 x4 = τ6
      replace h := h _ eτ6.symm
      refine r_g (pc' := 82) (ls' := [some (.ref r0), l1, some (.int x2), some (.int x3), some (.int x4)]) (st' := [.ref r0]) dX3_readWords_81 (fun _ => rfl) ?_
      refine r_g (pc' := 83) (ls' := [some (.ref r0), l1, some (.int x2), some (.int x3), some (.int x4)]) (st' := [.ref r0, .ref r0]) dX3_readWords_82 (fun _ => rfl) ?_
      obtain ⟨hK, h⟩ := h
      refine r_getI dX3_readWords_83 rfl (by decide) rfl hK ?_
      refine r_ic (v := 1) dX3_readWords_86 (by decide) ?_
      refine r_g (pc' := 88) (ls' := [some (.ref r0), l1, some (.int x2), some (.int x3), some (.int x4)]) (st' := [.int ((zI τ6 r0 3) + 1), .ref r0]) dX3_readWords_87 (fun _ => rfl) ?_
      obtain ⟨hK, h⟩ := h
      refine r_putI dX3_readWords_88 rfl (by decide) (Or.inl rfl) rfl (Or.inl rfl) hK ?_
      generalize eτ7 : stI τ6 r0 3 ((zI τ6 r0 3) + 1) = τ7
      replace h := h _ eτ7.symm
      exact h
theorem b23_91 {g : Nat → Nat} {C S : Nat} {σ : PS} {Q : Rs → PS → Prop} {r0 : Nat} {l1 : Option Value} {x2 : Int32} {l3 : Option Value} {x4 : Int32}
    (h : WP g C S 23 96 [some (.ref r0), l1, some (.int x2), some (.int (x4 + 1)), some (.int x4)] [] σ Q) :
    WP g C S 23 91 [some (.ref r0), l1, some (.int x2), l3, some (.int x4)] [] σ Q := by
  refine r_g (pc' := 93) (ls' := [some (.ref r0), l1, some (.int x2), l3, some (.int x4)]) (st' := [.int x4]) dX3_readWords_91 (fun _ => rfl) ?_
  refine r_ic (v := 1) dX3_readWords_93 (by decide) ?_
  refine r_g (pc' := 95) (ls' := [some (.ref r0), l1, some (.int x2), l3, some (.int x4)]) (st' := [.int (x4 + 1)]) dX3_readWords_94 (fun _ => rfl) ?_
  refine r_g (pc' := 96) (ls' := [some (.ref r0), l1, some (.int x2), some (.int (x4 + 1)), some (.int x4)]) (st' := []) dX3_readWords_95 (fun _ => rfl) ?_
  exact h
theorem b23_96 {g : Nat → Nat} {C S : Nat} {σ : PS} {Q : Rs → PS → Prop} {r0 : Nat} {l1 : Option Value} {x2 : Int32} {x3 : Int32} {x4 : Int32}
    (h : WP g C S 23 5 [some (.ref r0), l1, some (.int x2), some (.int x3), some (.int (x4 + 1))] [] σ Q) :
    WP g C S 23 96 [some (.ref r0), l1, some (.int x2), some (.int x3), some (.int x4)] [] σ Q := by
  refine r_inc (v := 1) (ls' := [some (.ref r0), l1, some (.int x2), some (.int x3), some (.int (x4 + 1))]) dX3_readWords_96 rfl (Nat.le_of_ble_eq_true rfl) (by decide) rfl ?_
  refine r_goto (t := 5) dX3_readWords_99 (by decide) ?_
  exact h
theorem b24_0 {g : Nat → Nat} {C S : Nat} {σ : PS} {Q : Rs → PS → Prop} {r0 : Nat}
    (h : zK σ r0 = 5 ∧ zK σ r0 = 5 ∧ ∃ b1, zP σ r0 4 = some b1 ∧ (zK σ b1 = 1 ∧ WP g C S 161 0 [some (.ref b1)] [] σ (KK g C S 24 11 [some (.ref r0)] [.int (zI σ r0 6)] Q false))) :
    WP g C S 24 0 [some (.ref r0)] [] σ Q := by
  refine r_g (pc' := 1) (ls' := [some (.ref r0)]) (st' := [.ref r0]) dX3_nextPerson_0 (fun _ => rfl) ?_
  obtain ⟨hK, h⟩ := h
  refine r_getI dX3_nextPerson_1 rfl (by decide) rfl hK ?_
  refine r_g (pc' := 5) (ls' := [some (.ref r0)]) (st' := [.ref r0, .int (zI σ r0 6)]) dX3_nextPerson_4 (fun _ => rfl) ?_
  obtain ⟨hK, b1, hP, h⟩ := h
  refine r_getP dX3_nextPerson_5 rfl (by decide) rfl hK hP ?_
  obtain ⟨hK, h⟩ := h
  exact r_call (th := false) dX3_nextPerson_8 (fun _ => ex_calV rfl (by decide)) rfl (Nat.le_of_ble_eq_true rfl) (Nat.le_of_ble_eq_true rfl) (Nat.le_of_ble_eq_true rfl) (rcv0 rfl rfl (by decide) hK) rfl rfl rfl (fun q => nomatch q) h
theorem b24_11 {g : Nat → Nat} {C S : Nat} {σ : PS} {Q : Rs → PS → Prop} {r0 : Nat} {u0 : Int32} {u1 : Int32}
    (h : ((u1 : Int32) < u0 → WP g C S 24 29 [some (.ref r0)] [] σ Q) ∧ (¬ ((u1 : Int32) < u0) → zK σ r0 = 5 ∧ ∃ b1, zP σ r0 4 = some b1 ∧ (zN σ + 1 ≤ C ∧ zS σ + 5 ≤ S ∧ (∀ τ2, τ2 = alO σ 4 5 → WP g C S 16 0 [some (.ref (zN σ))] [] τ2 (KK g C S 24 25 [some (.ref r0)] [.ref (zN σ), .ref b1] Q false))))) :
    WP g C S 24 11 [some (.ref r0)] [.int u0, .int u1] σ Q := by
  obtain ⟨h1, h2⟩ := h
  refine r_icmp (t := 29) dX3_nextPerson_11 (by decide) c_lt (fun c => ?_) (fun c => ?_)
  · have h := h1 c
    exact h
  · have h := h2 c
    refine r_g (pc' := 15) (ls' := [some (.ref r0)]) (st' := [.ref r0]) dX3_nextPerson_14 (fun _ => rfl) ?_
    obtain ⟨hK, b1, hP, h⟩ := h
    refine r_getP dX3_nextPerson_15 rfl (by decide) rfl hK hP ?_
    obtain ⟨hC, hS, h⟩ := h
    refine r_new (N := 5) dX3_nextPerson_18 rfl (by decide) rfl hC hS ?_
    generalize eτ2 : alO σ (3 + 1) 5 = τ2
    replace h := h _ eτ2.symm
    refine r_g (pc' := 22) (ls' := [some (.ref r0)]) (st' := [.ref (zN σ), .ref (zN σ), .ref b1]) dX3_nextPerson_21 (fun _ => rfl) ?_
    exact r_call (th := false) dX3_nextPerson_22 (fun _ => ex_calI rfl (by decide)) rfl (Nat.le_of_ble_eq_true rfl) (Nat.le_of_ble_eq_true rfl) (Nat.le_of_ble_eq_true rfl) rfl rfl rfl rfl (fun q => nomatch q) h
theorem b24_25 {g : Nat → Nat} {C S : Nat} {σ : PS} {Q : Rs → PS → Prop} {r0 : Nat} {w0 : Nat} {w1 : Nat}
    (h : zK σ w1 = 1 ∧ WP g C S 166 0 [some (.ref w1), some (.ref w0)] [] σ (KK g C S 24 28 [some (.ref r0)] [] Q false)) :
    WP g C S 24 25 [some (.ref r0)] [.ref w0, .ref w1] σ Q := by
  obtain ⟨hK, h⟩ := h
  exact r_call (th := false) dX3_nextPerson_25 (fun _ => ex_calV rfl (by decide)) rfl (Nat.le_of_ble_eq_true rfl) (Nat.le_of_ble_eq_true rfl) (Nat.le_of_ble_eq_true rfl) (rcv0 rfl rfl (by decide) hK) rfl rfl rfl (fun q => nomatch q) h
theorem b24_28 {g : Nat → Nat} {C S : Nat} {σ : PS} {Q : Rs → PS → Prop} {r0 : Nat} {u0 : Int32}
    (h : WP g C S 24 29 [some (.ref r0)] [] σ Q) :
    WP g C S 24 28 [some (.ref r0)] [.int u0] σ Q := by
  refine r_g (pc' := 29) (ls' := [some (.ref r0)]) (st' := []) dX3_nextPerson_28 (fun _ => rfl) ?_
  exact h
theorem b24_29 {g : Nat → Nat} {C S : Nat} {σ : PS} {Q : Rs → PS → Prop} {r0 : Nat}
    (h : zK σ r0 = 5 ∧ zK σ r0 = 5 ∧ (∀ τ1, τ1 = stI σ r0 6 ((zI σ r0 6) + 1) → zK τ1 r0 = 5 ∧ ∃ b2, zP τ1 r0 4 = some b2 ∧ (zK τ1 r0 = 5 ∧ zK τ1 b2 = 1 ∧ WP g C S 163 0 [some (.ref b2), some (.int ((zI τ1 r0 6) - 1))] [] τ1 (KK g C S 24 52 [some (.ref r0)] [] Q false)))) :
    WP g C S 24 29 [some (.ref r0)] [] σ Q := by
  refine r_g (pc' := 30) (ls' := [some (.ref r0)]) (st' := [.ref r0]) dX3_nextPerson_29 (fun _ => rfl) ?_
  refine r_g (pc' := 31) (ls' := [some (.ref r0)]) (st' := [.ref r0, .ref r0]) dX3_nextPerson_30 (fun _ => rfl) ?_
  obtain ⟨hK, h⟩ := h
  refine r_getI dX3_nextPerson_31 rfl (by decide) rfl hK ?_
  refine r_ic (v := 1) dX3_nextPerson_34 (by decide) ?_
  refine r_g (pc' := 36) (ls' := [some (.ref r0)]) (st' := [.int ((zI σ r0 6) + 1), .ref r0]) dX3_nextPerson_35 (fun _ => rfl) ?_
  obtain ⟨hK, h⟩ := h
  refine r_putI dX3_nextPerson_36 rfl (by decide) (Or.inl rfl) rfl (Or.inl rfl) hK ?_
  generalize eτ1 : stI σ r0 6 ((zI σ r0 6) + 1) = τ1
  replace h := h _ eτ1.symm
  refine r_g (pc' := 40) (ls' := [some (.ref r0)]) (st' := [.ref r0]) dX3_nextPerson_39 (fun _ => rfl) ?_
  obtain ⟨hK, b2, hP, h⟩ := h
  refine r_getP dX3_nextPerson_40 rfl (by decide) rfl hK hP ?_
  refine r_g (pc' := 44) (ls' := [some (.ref r0)]) (st' := [.ref r0, .ref b2]) dX3_nextPerson_43 (fun _ => rfl) ?_
  obtain ⟨hK, h⟩ := h
  refine r_getI dX3_nextPerson_44 rfl (by decide) rfl hK ?_
  refine r_ic (v := 1) dX3_nextPerson_47 (by decide) ?_
  refine r_g (pc' := 49) (ls' := [some (.ref r0)]) (st' := [.int ((zI τ1 r0 6) - 1), .ref b2]) dX3_nextPerson_48 (fun _ => rfl) ?_
  obtain ⟨hK, h⟩ := h
  exact r_call (th := false) dX3_nextPerson_49 (fun _ => ex_calV rfl (by decide)) rfl (Nat.le_of_ble_eq_true rfl) (Nat.le_of_ble_eq_true rfl) (Nat.le_of_ble_eq_true rfl) (rcv0 rfl rfl (by decide) hK) rfl rfl rfl (fun q => nomatch q) h
theorem b24_52 {g : Nat → Nat} {C S : Nat} {σ : PS} {Q : Rs → PS → Prop} {l0 : Option Value} {w0 : Nat}
    (h : zK σ w0 = 4 ∧ Q (Sum.inl (some (.ref w0))) σ) :
    WP g C S 24 52 [l0] [.ref w0] σ Q := by
  obtain ⟨hK, h⟩ := h
  refine r_chk dX3_nextPerson_52 rfl (Or.inl ⟨by decide, hK⟩) ?_
  exact r_aret dX3_nextPerson_55 rfl h
theorem b25_0 {g : Nat → Nat} {C S : Nat} {σ : PS} {Q : Rs → PS → Prop} {r0 : Nat} {r1 : Nat} {x2 : Int32} {x3 : Int32} {l4 : Option Value}
    (h : WP g C S 25 3 [some (.ref r0), some (.ref r1), some (.int x2), some (.int x3), some (.int x2)] [] σ Q) :
    WP g C S 25 0 [some (.ref r0), some (.ref r1), some (.int x2), some (.int x3), l4] [] σ Q := by
  refine r_g (pc' := 1) (ls' := [some (.ref r0), some (.ref r1), some (.int x2), some (.int x3), l4]) (st' := [.int x2]) dX3_partAtComma_0 (fun _ => rfl) ?_
  refine r_g (pc' := 3) (ls' := [some (.ref r0), some (.ref r1), some (.int x2), some (.int x3), some (.int x2)]) (st' := []) dX3_partAtComma_1 (fun _ => rfl) ?_
  exact h
theorem b25_3 {g : Nat → Nat} {C S : Nat} {σ : PS} {Q : Rs → PS → Prop} {r0 : Nat} {r1 : Nat} {x2 : Int32} {x3 : Int32} {x4 : Int32}
    (h : ((x3 - 1 : Int32) ≤ x4 → WP g C S 25 26 [some (.ref r0), some (.ref r1), some (.int x2), some (.int x3), some (.int x4)] [] σ Q) ∧ (¬ ((x3 - 1 : Int32) ≤ x4) → zK σ r0 = 5 ∧ WP g C S 27 0 [some (.ref r0), some (.int x4)] [] σ (KK g C S 25 17 [some (.ref r0), some (.ref r1), some (.int x2), some (.int x3), some (.int x4)] [] Q false))) :
    WP g C S 25 3 [some (.ref r0), some (.ref r1), some (.int x2), some (.int x3), some (.int x4)] [] σ Q := by
  refine r_g (pc' := 5) (ls' := [some (.ref r0), some (.ref r1), some (.int x2), some (.int x3), some (.int x4)]) (st' := [.int x4]) dX3_partAtComma_3 (fun _ => rfl) ?_
  refine r_g (pc' := 6) (ls' := [some (.ref r0), some (.ref r1), some (.int x2), some (.int x3), some (.int x4)]) (st' := [.int x3, .int x4]) dX3_partAtComma_5 (fun _ => rfl) ?_
  refine r_ic (v := 1) dX3_partAtComma_6 (by decide) ?_
  refine r_g (pc' := 8) (ls' := [some (.ref r0), some (.ref r1), some (.int x2), some (.int x3), some (.int x4)]) (st' := [.int (x3 - 1), .int x4]) dX3_partAtComma_7 (fun _ => rfl) ?_
  obtain ⟨h1, h2⟩ := h
  refine r_icmp (t := 26) dX3_partAtComma_8 (by decide) c_ge (fun c => ?_) (fun c => ?_)
  · have h := h1 c
    exact h
  · have h := h2 c
    refine r_g (pc' := 12) (ls' := [some (.ref r0), some (.ref r1), some (.int x2), some (.int x3), some (.int x4)]) (st' := [.ref r0]) dX3_partAtComma_11 (fun _ => rfl) ?_
    refine r_g (pc' := 14) (ls' := [some (.ref r0), some (.ref r1), some (.int x2), some (.int x3), some (.int x4)]) (st' := [.int x4, .ref r0]) dX3_partAtComma_12 (fun _ => rfl) ?_
    obtain ⟨hK, h⟩ := h
    exact r_call (th := false) dX3_partAtComma_14 (fun _ => ex_calV rfl (by decide)) rfl (Nat.le_of_ble_eq_true rfl) (Nat.le_of_ble_eq_true rfl) (Nat.le_of_ble_eq_true rfl) (rcv0 rfl rfl (by decide) hK) rfl rfl rfl (fun q => nomatch q) h
theorem b25_17 {g : Nat → Nat} {C S : Nat} {σ : PS} {Q : Rs → PS → Prop} {r0 : Nat} {r1 : Nat} {x2 : Int32} {x3 : Int32} {x4 : Int32} {u0 : Int32}
    (h : ((u0 : Int32) = 0 → WP g C S 25 26 [some (.ref r0), some (.ref r1), some (.int x2), some (.int x3), some (.int x4)] [] σ Q) ∧ (¬ ((u0 : Int32) = 0) → WP g C S 25 3 [some (.ref r0), some (.ref r1), some (.int x2), some (.int x3), some (.int (x4 + 1))] [] σ Q)) :
    WP g C S 25 17 [some (.ref r0), some (.ref r1), some (.int x2), some (.int x3), some (.int x4)] [.int u0] σ Q := by
  obtain ⟨h1, h2⟩ := h
  refine r_if (t := 26) dX3_partAtComma_17 (by decide) c_eq (fun c => ?_) (fun c => ?_)
  · have h := h1 c
    exact h
  · have h := h2 c
    refine r_inc (v := 1) (ls' := [some (.ref r0), some (.ref r1), some (.int x2), some (.int x3), some (.int (x4 + 1))]) dX3_partAtComma_20 rfl (Nat.le_of_ble_eq_true rfl) (by decide) rfl ?_
    refine r_goto (t := 3) dX3_partAtComma_23 (by decide) ?_
    exact h
theorem b25_26 {g : Nat → Nat} {C S : Nat} {σ : PS} {Q : Rs → PS → Prop} {r0 : Nat} {r1 : Nat} {x2 : Int32} {x3 : Int32} {x4 : Int32}
    (h : zK σ r1 = 4 ∧ (∀ τ1, τ1 = stI σ r1 2 x2 → zK τ1 r1 = 4 ∧ (∀ τ2, τ2 = stI τ1 r1 3 x4 → zK τ2 r1 = 4 ∧ (∀ τ3, τ3 = stI τ2 r1 4 x3 → zK τ3 r1 = 4 ∧ (∀ τ4, τ4 = stI τ3 r1 0 x3 → zK τ4 r0 = 5 ∧ zK τ4 r1 = 4 ∧ (∀ τ5, τ5 = stI τ4 r1 1 (zI τ4 r0 3) → Q (Sum.inl none) τ5)))))) :
    WP g C S 25 26 [some (.ref r0), some (.ref r1), some (.int x2), some (.int x3), some (.int x4)] [] σ Q := by
  refine r_g (pc' := 27) (ls' := [some (.ref r0), some (.ref r1), some (.int x2), some (.int x3), some (.int x4)]) (st' := [.ref r1]) dX3_partAtComma_26 (fun _ => rfl) ?_
  refine r_g (pc' := 28) (ls' := [some (.ref r0), some (.ref r1), some (.int x2), some (.int x3), some (.int x4)]) (st' := [.int x2, .ref r1]) dX3_partAtComma_27 (fun _ => rfl) ?_
  obtain ⟨hK, h⟩ := h
  refine r_putI dX3_partAtComma_28 rfl (by decide) (Or.inl rfl) rfl (Or.inl rfl) hK ?_
  generalize eτ1 : stI σ r1 2 x2 = τ1
  replace h := h _ eτ1.symm
  refine r_g (pc' := 32) (ls' := [some (.ref r0), some (.ref r1), some (.int x2), some (.int x3), some (.int x4)]) (st' := [.ref r1]) dX3_partAtComma_31 (fun _ => rfl) ?_
  refine r_g (pc' := 34) (ls' := [some (.ref r0), some (.ref r1), some (.int x2), some (.int x3), some (.int x4)]) (st' := [.int x4, .ref r1]) dX3_partAtComma_32 (fun _ => rfl) ?_
  obtain ⟨hK, h⟩ := h
  refine r_putI dX3_partAtComma_34 rfl (by decide) (Or.inl rfl) rfl (Or.inl rfl) hK ?_
  generalize eτ2 : stI τ1 r1 3 x4 = τ2
  replace h := h _ eτ2.symm
  refine r_g (pc' := 38) (ls' := [some (.ref r0), some (.ref r1), some (.int x2), some (.int x3), some (.int x4)]) (st' := [.ref r1]) dX3_partAtComma_37 (fun _ => rfl) ?_
  refine r_g (pc' := 39) (ls' := [some (.ref r0), some (.ref r1), some (.int x2), some (.int x3), some (.int x4)]) (st' := [.int x3, .ref r1]) dX3_partAtComma_38 (fun _ => rfl) ?_
  obtain ⟨hK, h⟩ := h
  refine r_putI dX3_partAtComma_39 rfl (by decide) (Or.inl rfl) rfl (Or.inl rfl) hK ?_
  generalize eτ3 : stI τ2 r1 4 x3 = τ3
  replace h := h _ eτ3.symm
  refine r_g (pc' := 43) (ls' := [some (.ref r0), some (.ref r1), some (.int x2), some (.int x3), some (.int x4)]) (st' := [.ref r1]) dX3_partAtComma_42 (fun _ => rfl) ?_
  refine r_g (pc' := 44) (ls' := [some (.ref r0), some (.ref r1), some (.int x2), some (.int x3), some (.int x4)]) (st' := [.int x3, .ref r1]) dX3_partAtComma_43 (fun _ => rfl) ?_
  obtain ⟨hK, h⟩ := h
  refine r_putI dX3_partAtComma_44 rfl (by decide) (Or.inl rfl) rfl (Or.inl rfl) hK ?_
  generalize eτ4 : stI τ3 r1 0 x3 = τ4
  replace h := h _ eτ4.symm
  refine r_g (pc' := 48) (ls' := [some (.ref r0), some (.ref r1), some (.int x2), some (.int x3), some (.int x4)]) (st' := [.ref r1]) dX3_partAtComma_47 (fun _ => rfl) ?_
  refine r_g (pc' := 49) (ls' := [some (.ref r0), some (.ref r1), some (.int x2), some (.int x3), some (.int x4)]) (st' := [.ref r0, .ref r1]) dX3_partAtComma_48 (fun _ => rfl) ?_
  obtain ⟨hK, h⟩ := h
  refine r_getI dX3_partAtComma_49 rfl (by decide) rfl hK ?_
  obtain ⟨hK, h⟩ := h
  refine r_putI dX3_partAtComma_52 rfl (by decide) (Or.inl rfl) rfl (Or.inl rfl) hK ?_
  generalize eτ5 : stI τ4 r1 1 (zI τ4 r0 3) = τ5
  replace h := h _ eτ5.symm
  exact r_vret dX3_partAtComma_55 rfl h
theorem b26_0 {g : Nat → Nat} {C S : Nat} {σ : PS} {Q : Rs → PS → Prop} {r0 : Nat} {r1 : Nat} {x2 : Int32} {l3 : Option Value} {l4 : Option Value} {l5 : Option Value}
    (h : zK σ r0 = 5 ∧ WP g C S 26 10 [some (.ref r0), some (.ref r1), some (.int x2), some (.int ((zI σ r0 3) - 1)), some (.int x2), l5] [] σ Q) :
    WP g C S 26 0 [some (.ref r0), some (.ref r1), some (.int x2), l3, l4, l5] [] σ Q := by
  refine r_g (pc' := 1) (ls' := [some (.ref r0), some (.ref r1), some (.int x2), l3, l4, l5]) (st' := [.ref r0]) dX3_partAtParticles_0 (fun _ => rfl) ?_
  obtain ⟨hK, h⟩ := h
  refine r_getI dX3_partAtParticles_1 rfl (by decide) rfl hK ?_
  refine r_ic (v := 1) dX3_partAtParticles_4 (by decide) ?_
  refine r_g (pc' := 6) (ls' := [some (.ref r0), some (.ref r1), some (.int x2), l3, l4, l5]) (st' := [.int ((zI σ r0 3) - 1)]) dX3_partAtParticles_5 (fun _ => rfl) ?_
  refine r_g (pc' := 7) (ls' := [some (.ref r0), some (.ref r1), some (.int x2), some (.int ((zI σ r0 3) - 1)), l4, l5]) (st' := []) dX3_partAtParticles_6 (fun _ => rfl) ?_
  refine r_g (pc' := 8) (ls' := [some (.ref r0), some (.ref r1), some (.int x2), some (.int ((zI σ r0 3) - 1)), l4, l5]) (st' := [.int x2]) dX3_partAtParticles_7 (fun _ => rfl) ?_
  refine r_g (pc' := 10) (ls' := [some (.ref r0), some (.ref r1), some (.int x2), some (.int ((zI σ r0 3) - 1)), some (.int x2), l5]) (st' := []) dX3_partAtParticles_8 (fun _ => rfl) ?_
  exact h
theorem b26_10 {g : Nat → Nat} {C S : Nat} {σ : PS} {Q : Rs → PS → Prop} {r0 : Nat} {r1 : Nat} {x2 : Int32} {x3 : Int32} {x4 : Int32} {l5 : Option Value}
    (h : ((x3 : Int32) ≤ x4 → WP g C S 26 31 [some (.ref r0), some (.ref r1), some (.int x2), some (.int x3), some (.int x4), l5] [] σ Q) ∧ (¬ ((x3 : Int32) ≤ x4) → zK σ r0 = 5 ∧ WP g C S 27 0 [some (.ref r0), some (.int x4)] [] σ (KK g C S 26 22 [some (.ref r0), some (.ref r1), some (.int x2), some (.int x3), some (.int x4), l5] [] Q false))) :
    WP g C S 26 10 [some (.ref r0), some (.ref r1), some (.int x2), some (.int x3), some (.int x4), l5] [] σ Q := by
  refine r_g (pc' := 12) (ls' := [some (.ref r0), some (.ref r1), some (.int x2), some (.int x3), some (.int x4), l5]) (st' := [.int x4]) dX3_partAtParticles_10 (fun _ => rfl) ?_
  refine r_g (pc' := 13) (ls' := [some (.ref r0), some (.ref r1), some (.int x2), some (.int x3), some (.int x4), l5]) (st' := [.int x3, .int x4]) dX3_partAtParticles_12 (fun _ => rfl) ?_
  obtain ⟨h1, h2⟩ := h
  refine r_icmp (t := 31) dX3_partAtParticles_13 (by decide) c_ge (fun c => ?_) (fun c => ?_)
  · have h := h1 c
    exact h
  · have h := h2 c
    refine r_g (pc' := 17) (ls' := [some (.ref r0), some (.ref r1), some (.int x2), some (.int x3), some (.int x4), l5]) (st' := [.ref r0]) dX3_partAtParticles_16 (fun _ => rfl) ?_
    refine r_g (pc' := 19) (ls' := [some (.ref r0), some (.ref r1), some (.int x2), some (.int x3), some (.int x4), l5]) (st' := [.int x4, .ref r0]) dX3_partAtParticles_17 (fun _ => rfl) ?_
    obtain ⟨hK, h⟩ := h
    exact r_call (th := false) dX3_partAtParticles_19 (fun _ => ex_calV rfl (by decide)) rfl (Nat.le_of_ble_eq_true rfl) (Nat.le_of_ble_eq_true rfl) (Nat.le_of_ble_eq_true rfl) (rcv0 rfl rfl (by decide) hK) rfl rfl rfl (fun q => nomatch q) h
theorem b26_22 {g : Nat → Nat} {C S : Nat} {σ : PS} {Q : Rs → PS → Prop} {r0 : Nat} {r1 : Nat} {x2 : Int32} {x3 : Int32} {x4 : Int32} {l5 : Option Value} {u0 : Int32}
    (h : (¬ (u0 : Int32) = 0 → WP g C S 26 31 [some (.ref r0), some (.ref r1), some (.int x2), some (.int x3), some (.int x4), l5] [] σ Q) ∧ (¬ (¬ (u0 : Int32) = 0) → WP g C S 26 10 [some (.ref r0), some (.ref r1), some (.int x2), some (.int x3), some (.int (x4 + 1)), l5] [] σ Q)) :
    WP g C S 26 22 [some (.ref r0), some (.ref r1), some (.int x2), some (.int x3), some (.int x4), l5] [.int u0] σ Q := by
  obtain ⟨h1, h2⟩ := h
  refine r_if (t := 31) dX3_partAtParticles_22 (by decide) c_ne (fun c => ?_) (fun c => ?_)
  · have h := h1 c
    exact h
  · have h := h2 c
    refine r_inc (v := 1) (ls' := [some (.ref r0), some (.ref r1), some (.int x2), some (.int x3), some (.int (x4 + 1)), l5]) dX3_partAtParticles_25 rfl (Nat.le_of_ble_eq_true rfl) (by decide) rfl ?_
    refine r_goto (t := 10) dX3_partAtParticles_28 (by decide) ?_
    exact h
theorem b26_31 {g : Nat → Nat} {C S : Nat} {σ : PS} {Q : Rs → PS → Prop} {r0 : Nat} {r1 : Nat} {x2 : Int32} {x3 : Int32} {x4 : Int32} {l5 : Option Value}
    (h : WP g C S 26 34 [some (.ref r0), some (.ref r1), some (.int x2), some (.int x3), some (.int x4), some (.int x3)] [] σ Q) :
    WP g C S 26 31 [some (.ref r0), some (.ref r1), some (.int x2), some (.int x3), some (.int x4), l5] [] σ Q := by
  refine r_g (pc' := 32) (ls' := [some (.ref r0), some (.ref r1), some (.int x2), some (.int x3), some (.int x4), l5]) (st' := [.int x3]) dX3_partAtParticles_31 (fun _ => rfl) ?_
  refine r_g (pc' := 34) (ls' := [some (.ref r0), some (.ref r1), some (.int x2), some (.int x3), some (.int x4), some (.int x3)]) (st' := []) dX3_partAtParticles_32 (fun _ => rfl) ?_
  exact h
theorem b26_34 {g : Nat → Nat} {C S : Nat} {σ : PS} {Q : Rs → PS → Prop} {r0 : Nat} {r1 : Nat} {x2 : Int32} {l3 : Option Value} {x4 : Int32} {x5 : Int32}
    (h : ((x5 : Int32) ≤ x4 → WP g C S 26 58 [some (.ref r0), some (.ref r1), some (.int x2), l3, some (.int x4), some (.int x5)] [] σ Q) ∧ (¬ ((x5 : Int32) ≤ x4) → zK σ r0 = 5 ∧ WP g C S 27 0 [some (.ref r0), some (.int (x5 - 1))] [] σ (KK g C S 26 49 [some (.ref r0), some (.ref r1), some (.int x2), l3, some (.int x4), some (.int x5)] [] Q false))) :
    WP g C S 26 34 [some (.ref r0), some (.ref r1), some (.int x2), l3, some (.int x4), some (.int x5)] [] σ Q := by
  refine r_g (pc' := 36) (ls' := [some (.ref r0), some (.ref r1), some (.int x2), l3, some (.int x4), some (.int x5)]) (st' := [.int x5]) dX3_partAtParticles_34 (fun _ => rfl) ?_
  refine r_g (pc' := 38) (ls' := [some (.ref r0), some (.ref r1), some (.int x2), l3, some (.int x4), some (.int x5)]) (st' := [.int x4, .int x5]) dX3_partAtParticles_36 (fun _ => rfl) ?_
  obtain ⟨h1, h2⟩ := h
  refine r_icmp (t := 58) dX3_partAtParticles_38 (by decide) c_le (fun c => ?_) (fun c => ?_)
  · have h := h1 c
    exact h
  · have h := h2 c
    refine r_g (pc' := 42) (ls' := [some (.ref r0), some (.ref r1), some (.int x2), l3, some (.int x4), some (.int x5)]) (st' := [.ref r0]) dX3_partAtParticles_41 (fun _ => rfl) ?_
    refine r_g (pc' := 44) (ls' := [some (.ref r0), some (.ref r1), some (.int x2), l3, some (.int x4), some (.int x5)]) (st' := [.int x5, .ref r0]) dX3_partAtParticles_42 (fun _ => rfl) ?_
    refine r_ic (v := 1) dX3_partAtParticles_44 (by decide) ?_
    refine r_g (pc' := 46) (ls' := [some (.ref r0), some (.ref r1), some (.int x2), l3, some (.int x4), some (.int x5)]) (st' := [.int (x5 - 1), .ref r0]) dX3_partAtParticles_45 (fun _ => rfl) ?_
    obtain ⟨hK, h⟩ := h
    exact r_call (th := false) dX3_partAtParticles_46 (fun _ => ex_calV rfl (by decide)) rfl (Nat.le_of_ble_eq_true rfl) (Nat.le_of_ble_eq_true rfl) (Nat.le_of_ble_eq_true rfl) (rcv0 rfl rfl (by decide) hK) rfl rfl rfl (fun q => nomatch q) h
theorem b26_49 {g : Nat → Nat} {C S : Nat} {σ : PS} {Q : Rs → PS → Prop} {r0 : Nat} {r1 : Nat} {x2 : Int32} {l3 : Option Value} {x4 : Int32} {x5 : Int32} {u0 : Int32}
    (h : (¬ (u0 : Int32) = 0 → WP g C S 26 58 [some (.ref r0), some (.ref r1), some (.int x2), l3, some (.int x4), some (.int x5)] [] σ Q) ∧ (¬ (¬ (u0 : Int32) = 0) → WP g C S 26 34 [some (.ref r0), some (.ref r1), some (.int x2), l3, some (.int x4), some (.int (x5 + (-1)))] [] σ Q)) :
    WP g C S 26 49 [some (.ref r0), some (.ref r1), some (.int x2), l3, some (.int x4), some (.int x5)] [.int u0] σ Q := by
  obtain ⟨h1, h2⟩ := h
  refine r_if (t := 58) dX3_partAtParticles_49 (by decide) c_ne (fun c => ?_) (fun c => ?_)
  · have h := h1 c
    exact h
  · have h := h2 c
    refine r_inc (v := -1) (ls' := [some (.ref r0), some (.ref r1), some (.int x2), l3, some (.int x4), some (.int (x5 + (-1)))]) dX3_partAtParticles_52 rfl (Nat.le_of_ble_eq_true rfl) (by decide) rfl ?_
    refine r_goto (t := 34) dX3_partAtParticles_55 (by decide) ?_
    exact h
theorem b26_58 {g : Nat → Nat} {C S : Nat} {σ : PS} {Q : Rs → PS → Prop} {r0 : Nat} {r1 : Nat} {x2 : Int32} {l3 : Option Value} {x4 : Int32} {x5 : Int32}
    (h : zK σ r1 = 4 ∧ (∀ τ1, τ1 = stI σ r1 0 x2 → zK τ1 r1 = 4 ∧ (∀ τ2, τ2 = stI τ1 r1 1 x4 → zK τ2 r1 = 4 ∧ (∀ τ3, τ3 = stI τ2 r1 2 x4 → zK τ3 r1 = 4 ∧ (∀ τ4, τ4 = stI τ3 r1 3 x5 → zK τ4 r0 = 5 ∧ zK τ4 r1 = 4 ∧ (∀ τ5, τ5 = stI τ4 r1 4 (zI τ4 r0 3) → Q (Sum.inl none) τ5)))))) :
    WP g C S 26 58 [some (.ref r0), some (.ref r1), some (.int x2), l3, some (.int x4), some (.int x5)] [] σ Q := by
  refine r_g (pc' := 59) (ls' := [some (.ref r0), some (.ref r1), some (.int x2), l3, some (.int x4), some (.int x5)]) (st' := [.ref r1]) dX3_partAtParticles_58 (fun _ => rfl) ?_
  refine r_g (pc' := 60) (ls' := [some (.ref r0), some (.ref r1), some (.int x2), l3, some (.int x4), some (.int x5)]) (st' := [.int x2, .ref r1]) dX3_partAtParticles_59 (fun _ => rfl) ?_
  obtain ⟨hK, h⟩ := h
  refine r_putI dX3_partAtParticles_60 rfl (by decide) (Or.inl rfl) rfl (Or.inl rfl) hK ?_
  generalize eτ1 : stI σ r1 0 x2 = τ1
  replace h := h _ eτ1.symm
  refine r_g (pc' := 64) (ls' := [some (.ref r0), some (.ref r1), some (.int x2), l3, some (.int x4), some (.int x5)]) (st' := [.ref r1]) dX3_partAtParticles_63 (fun _ => rfl) ?_
  refine r_g (pc' := 66) (ls' := [some (.ref r0), some (.ref r1), some (.int x2), l3, some (.int x4), some (.int x5)]) (st' := [.int x4, .ref r1]) dX3_partAtParticles_64 (fun _ => rfl) ?_
  obtain ⟨hK, h⟩ := h
  refine r_putI dX3_partAtParticles_66 rfl (by decide) (Or.inl rfl) rfl (Or.inl rfl) hK ?_
  generalize eτ2 : stI τ1 r1 1 x4 = τ2
  replace h := h _ eτ2.symm
  refine r_g (pc' := 70) (ls' := [some (.ref r0), some (.ref r1), some (.int x2), l3, some (.int x4), some (.int x5)]) (st' := [.ref r1]) dX3_partAtParticles_69 (fun _ => rfl) ?_
  refine r_g (pc' := 72) (ls' := [some (.ref r0), some (.ref r1), some (.int x2), l3, some (.int x4), some (.int x5)]) (st' := [.int x4, .ref r1]) dX3_partAtParticles_70 (fun _ => rfl) ?_
  obtain ⟨hK, h⟩ := h
  refine r_putI dX3_partAtParticles_72 rfl (by decide) (Or.inl rfl) rfl (Or.inl rfl) hK ?_
  generalize eτ3 : stI τ2 r1 2 x4 = τ3
  replace h := h _ eτ3.symm
  refine r_g (pc' := 76) (ls' := [some (.ref r0), some (.ref r1), some (.int x2), l3, some (.int x4), some (.int x5)]) (st' := [.ref r1]) dX3_partAtParticles_75 (fun _ => rfl) ?_
  refine r_g (pc' := 78) (ls' := [some (.ref r0), some (.ref r1), some (.int x2), l3, some (.int x4), some (.int x5)]) (st' := [.int x5, .ref r1]) dX3_partAtParticles_76 (fun _ => rfl) ?_
  obtain ⟨hK, h⟩ := h
  refine r_putI dX3_partAtParticles_78 rfl (by decide) (Or.inl rfl) rfl (Or.inl rfl) hK ?_
  generalize eτ4 : stI τ3 r1 3 x5 = τ4
  replace h := h _ eτ4.symm
  refine r_g (pc' := 82) (ls' := [some (.ref r0), some (.ref r1), some (.int x2), l3, some (.int x4), some (.int x5)]) (st' := [.ref r1]) dX3_partAtParticles_81 (fun _ => rfl) ?_
  refine r_g (pc' := 83) (ls' := [some (.ref r0), some (.ref r1), some (.int x2), l3, some (.int x4), some (.int x5)]) (st' := [.ref r0, .ref r1]) dX3_partAtParticles_82 (fun _ => rfl) ?_
  obtain ⟨hK, h⟩ := h
  refine r_getI dX3_partAtParticles_83 rfl (by decide) rfl hK ?_
  obtain ⟨hK, h⟩ := h
  refine r_putI dX3_partAtParticles_86 rfl (by decide) (Or.inl rfl) rfl (Or.inl rfl) hK ?_
  generalize eτ5 : stI τ4 r1 4 (zI τ4 r0 3) = τ5
  replace h := h _ eτ5.symm
  exact r_vret dX3_partAtParticles_89 rfl h
theorem b27_0 {g : Nat → Nat} {C S : Nat} {σ : PS} {Q : Rs → PS → Prop} {r0 : Nat} {x1 : Int32}
    (h : zK σ r0 = 5 ∧ ∃ b1, zP σ r0 0 = some b1 ∧ (zK σ r0 = 5 ∧ WP g C S 28 0 [some (.ref r0), some (.int x1)] [] σ (KK g C S 27 9 [some (.ref r0), some (.int x1)] [.ref b1] Q false))) :
    WP g C S 27 0 [some (.ref r0), some (.int x1)] [] σ Q := by
  refine r_g (pc' := 1) (ls' := [some (.ref r0), some (.int x1)]) (st' := [.ref r0]) dX3_beginsSmall_0 (fun _ => rfl) ?_
  obtain ⟨hK, b1, hP, h⟩ := h
  refine r_getP dX3_beginsSmall_1 rfl (by decide) rfl hK hP ?_
  refine r_g (pc' := 5) (ls' := [some (.ref r0), some (.int x1)]) (st' := [.ref r0, .ref b1]) dX3_beginsSmall_4 (fun _ => rfl) ?_
  refine r_g (pc' := 6) (ls' := [some (.ref r0), some (.int x1)]) (st' := [.int x1, .ref r0, .ref b1]) dX3_beginsSmall_5 (fun _ => rfl) ?_
  obtain ⟨hK, h⟩ := h
  exact r_call (th := false) dX3_beginsSmall_6 (fun _ => ex_calV rfl (by decide)) rfl (Nat.le_of_ble_eq_true rfl) (Nat.le_of_ble_eq_true rfl) (Nat.le_of_ble_eq_true rfl) (rcv0 rfl rfl (by decide) hK) rfl rfl rfl (fun q => nomatch q) h
theorem b27_9 {g : Nat → Nat} {C S : Nat} {σ : PS} {Q : Rs → PS → Prop} {l0 : Option Value} {l1 : Option Value} {u0 : Int32} {w1 : Nat}
    (h : zK σ w1 = 7 ∧ WP g C S 56 0 [some (.ref w1), some (.int u0)] [] σ (KK g C S 27 12 [l0, l1] [] Q false)) :
    WP g C S 27 9 [l0, l1] [.int u0, .ref w1] σ Q := by
  obtain ⟨hK, h⟩ := h
  exact r_call (th := false) dX3_beginsSmall_9 (fun _ => ex_calV rfl (by decide)) rfl (Nat.le_of_ble_eq_true rfl) (Nat.le_of_ble_eq_true rfl) (Nat.le_of_ble_eq_true rfl) (rcv0 rfl rfl (by decide) hK) rfl rfl rfl (fun q => nomatch q) h
theorem b27_12 {g : Nat → Nat} {C S : Nat} {σ : PS} {Q : Rs → PS → Prop} {l0 : Option Value} {l1 : Option Value} {u0 : Int32}
    (h : WP g C S 89 0 [some (.int u0)] [] σ (KK g C S 27 15 [l0, l1] [] Q false)) :
    WP g C S 27 12 [l0, l1] [.int u0] σ Q := by
  exact r_call (th := false) dX3_beginsSmall_12 (fun _ => ex_calS rfl (by decide)) rfl (Nat.le_of_ble_eq_true rfl) (Nat.le_of_ble_eq_true rfl) (Nat.le_of_ble_eq_true rfl) rfl rfl rfl rfl (fun q => nomatch q) h
theorem b27_15 {g : Nat → Nat} {C S : Nat} {σ : PS} {Q : Rs → PS → Prop} {l0 : Option Value} {l1 : Option Value} {u0 : Int32}
    (h : ((u0 : Int32) = 0 ∨ u0 = 1) ∧ Q (Sum.inl (some (.int u0))) σ) :
    WP g C S 27 15 [l0, l1] [.int u0] σ Q := by
  obtain ⟨hn, h⟩ := h
  exact r_ret dX3_beginsSmall_15 (by rcases hn with q | q <;> rw [q] <;> rfl) h
theorem b28_0 {g : Nat → Nat} {C S : Nat} {σ : PS} {Q : Rs → PS → Prop} {r0 : Nat} {x1 : Int32}
    (h : ((x1 : Int32) < 0 → WP g C S 28 21 [some (.ref r0), some (.int x1)] [] σ Q) ∧ (¬ ((x1 : Int32) < 0) → zK σ r0 = 5 ∧ ((zI σ r0 3 : Int32) ≤ x1 → WP g C S 28 21 [some (.ref r0), some (.int x1)] [] σ Q) ∧ (¬ ((zI σ r0 3 : Int32) ≤ x1) → zK σ r0 = 5 ∧ ∃ b1, zP σ r0 1 = some b1 ∧ (∃ n2 : Nat, x1 = nI n2 ∧ n2 < 2147483648 ∧ (zK σ b1 = 101 ∨ zK σ b1 = 1002) ∧ n2 < zL σ b1 ∧ (WP g C S 28 22 [some (.ref r0), some (.int x1)] [.int (zI σ b1 n2)] σ Q))))) :
    WP g C S 28 0 [some (.ref r0), some (.int x1)] [] σ Q := by
  refine r_g (pc' := 1) (ls' := [some (.ref r0), some (.int x1)]) (st' := [.int x1]) dX3_wordStart_0 (fun _ => rfl) ?_
  obtain ⟨h1, h2⟩ := h
  refine r_if (t := 21) dX3_wordStart_1 (by decide) c_lt (fun c => ?_) (fun c => ?_)
  · have h := h1 c
    exact h
  · have h := h2 c
    refine r_g (pc' := 5) (ls' := [some (.ref r0), some (.int x1)]) (st' := [.int x1]) dX3_wordStart_4 (fun _ => rfl) ?_
    refine r_g (pc' := 6) (ls' := [some (.ref r0), some (.int x1)]) (st' := [.ref r0, .int x1]) dX3_wordStart_5 (fun _ => rfl) ?_
    obtain ⟨hK, h⟩ := h
    refine r_getI dX3_wordStart_6 rfl (by decide) rfl hK ?_
    obtain ⟨h1, h2⟩ := h
    refine r_icmp (t := 21) dX3_wordStart_9 (by decide) c_ge (fun c => ?_) (fun c => ?_)
    · have h := h1 c
      exact h
    · have h := h2 c
      refine r_g (pc' := 13) (ls' := [some (.ref r0), some (.int x1)]) (st' := [.ref r0]) dX3_wordStart_12 (fun _ => rfl) ?_
      obtain ⟨hK, b1, hP, h⟩ := h
      refine r_getP dX3_wordStart_13 rfl (by decide) rfl hK hP ?_
      refine r_g (pc' := 17) (ls' := [some (.ref r0), some (.int x1)]) (st' := [.int x1, .ref b1]) dX3_wordStart_16 (fun _ => rfl) ?_
      obtain ⟨n2, hj, hn, hK, hL, h⟩ := h
      refine r_iald dX3_wordStart_17 hj hn hK hL ?_
      refine r_goto (t := 22) dX3_wordStart_18 (by decide) ?_
      exact h
theorem b28_21 {g : Nat → Nat} {C S : Nat} {σ : PS} {Q : Rs → PS → Prop} {l0 : Option Value} {l1 : Option Value}
    (h : WP g C S 28 22 [l0, l1] [.int 0] σ Q) :
    WP g C S 28 21 [l0, l1] [] σ Q := by
  refine r_ic (v := 0) dX3_wordStart_21 (by decide) ?_
  exact h
theorem b28_22 {g : Nat → Nat} {C S : Nat} {σ : PS} {Q : Rs → PS → Prop} {l0 : Option Value} {l1 : Option Value} {u0 : Int32}
    (h : Q (Sum.inl (some (.int u0))) σ) :
    WP g C S 28 22 [l0, l1] [.int u0] σ Q := by
  exact r_ret dX3_wordStart_22 rfl h
theorem b29_0 {g : Nat → Nat} {C S : Nat} {σ : PS} {Q : Rs → PS → Prop} {r0 : Nat} {x1 : Int32}
    (h : ((x1 : Int32) < 0 → WP g C S 29 29 [some (.ref r0), some (.int x1)] [] σ Q) ∧ (¬ ((x1 : Int32) < 0) → zK σ r0 = 5 ∧ ∃ b1, zP σ r0 4 = some b1 ∧ (zK σ b1 = 1 ∧ WP g C S 161 0 [some (.ref b1)] [] σ (KK g C S 29 12 [some (.ref r0), some (.int x1)] [.int x1] Q false)))) :
    WP g C S 29 0 [some (.ref r0), some (.int x1)] [] σ Q := by
  refine r_g (pc' := 1) (ls' := [some (.ref r0), some (.int x1)]) (st' := [.int x1]) dX3_personAt_0 (fun _ => rfl) ?_
  obtain ⟨h1, h2⟩ := h
  refine r_if (t := 29) dX3_personAt_1 (by decide) c_lt (fun c => ?_) (fun c => ?_)
  · have h := h1 c
    exact h
  · have h := h2 c
    refine r_g (pc' := 5) (ls' := [some (.ref r0), some (.int x1)]) (st' := [.int x1]) dX3_personAt_4 (fun _ => rfl) ?_
    refine r_g (pc' := 6) (ls' := [some (.ref r0), some (.int x1)]) (st' := [.ref r0, .int x1]) dX3_personAt_5 (fun _ => rfl) ?_
    obtain ⟨hK, b1, hP, h⟩ := h
    refine r_getP dX3_personAt_6 rfl (by decide) rfl hK hP ?_
    obtain ⟨hK, h⟩ := h
    exact r_call (th := false) dX3_personAt_9 (fun _ => ex_calV rfl (by decide)) rfl (Nat.le_of_ble_eq_true rfl) (Nat.le_of_ble_eq_true rfl) (Nat.le_of_ble_eq_true rfl) (rcv0 rfl rfl (by decide) hK) rfl rfl rfl (fun q => nomatch q) h
theorem b29_12 {g : Nat → Nat} {C S : Nat} {σ : PS} {Q : Rs → PS → Prop} {r0 : Nat} {x1 : Int32} {u0 : Int32} {u1 : Int32}
    (h : ((u0 : Int32) ≤ u1 → WP g C S 29 29 [some (.ref r0), some (.int x1)] [] σ Q) ∧ (¬ ((u0 : Int32) ≤ u1) → zK σ r0 = 5 ∧ ∃ b1, zP σ r0 4 = some b1 ∧ (zK σ b1 = 1 ∧ WP g C S 163 0 [some (.ref b1), some (.int x1)] [] σ (KK g C S 29 23 [some (.ref r0), some (.int x1)] [] Q false)))) :
    WP g C S 29 12 [some (.ref r0), some (.int x1)] [.int u0, .int u1] σ Q := by
  obtain ⟨h1, h2⟩ := h
  refine r_icmp (t := 29) dX3_personAt_12 (by decide) c_ge (fun c => ?_) (fun c => ?_)
  · have h := h1 c
    exact h
  · have h := h2 c
    refine r_g (pc' := 16) (ls' := [some (.ref r0), some (.int x1)]) (st' := [.ref r0]) dX3_personAt_15 (fun _ => rfl) ?_
    obtain ⟨hK, b1, hP, h⟩ := h
    refine r_getP dX3_personAt_16 rfl (by decide) rfl hK hP ?_
    refine r_g (pc' := 20) (ls' := [some (.ref r0), some (.int x1)]) (st' := [.int x1, .ref b1]) dX3_personAt_19 (fun _ => rfl) ?_
    obtain ⟨hK, h⟩ := h
    exact r_call (th := false) dX3_personAt_20 (fun _ => ex_calV rfl (by decide)) rfl (Nat.le_of_ble_eq_true rfl) (Nat.le_of_ble_eq_true rfl) (Nat.le_of_ble_eq_true rfl) (rcv0 rfl rfl (by decide) hK) rfl rfl rfl (fun q => nomatch q) h
theorem b29_23 {g : Nat → Nat} {C S : Nat} {σ : PS} {Q : Rs → PS → Prop} {l0 : Option Value} {l1 : Option Value} {w0 : Nat}
    (h : zK σ w0 = 4 ∧ WP g C S 29 33 [l0, l1] [.ref w0] σ Q) :
    WP g C S 29 23 [l0, l1] [.ref w0] σ Q := by
  obtain ⟨hK, h⟩ := h
  refine r_chk dX3_personAt_23 rfl (Or.inl ⟨by decide, hK⟩) ?_
  refine r_goto (t := 33) dX3_personAt_26 (by decide) ?_
  exact h
theorem b29_29 {g : Nat → Nat} {C S : Nat} {σ : PS} {Q : Rs → PS → Prop} {r0 : Nat} {l1 : Option Value}
    (h : zK σ r0 = 5 ∧ ∃ b1, zP σ r0 5 = some b1 ∧ (WP g C S 29 33 [some (.ref r0), l1] [.ref b1] σ Q)) :
    WP g C S 29 29 [some (.ref r0), l1] [] σ Q := by
  refine r_g (pc' := 30) (ls' := [some (.ref r0), l1]) (st' := [.ref r0]) dX3_personAt_29 (fun _ => rfl) ?_
  obtain ⟨hK, b1, hP, h⟩ := h
  refine r_getP dX3_personAt_30 rfl (by decide) rfl hK hP ?_
  exact h
theorem b29_33 {g : Nat → Nat} {C S : Nat} {σ : PS} {Q : Rs → PS → Prop} {l0 : Option Value} {l1 : Option Value} {w0 : Nat}
    (h : Q (Sum.inl (some (.ref w0))) σ) :
    WP g C S 29 33 [l0, l1] [.ref w0] σ Q := by
  exact r_aret dX3_personAt_33 rfl h
theorem b30_0 {g : Nat → Nat} {C S : Nat} {σ : PS} {Q : Rs → PS → Prop} {r0 : Nat} {x1 : Int32}
    (h : zK σ r0 = 5 ∧ WP g C S 29 0 [some (.ref r0), some (.int x1)] [] σ (KK g C S 30 5 [some (.ref r0), some (.int x1)] [] Q false)) :
    WP g C S 30 0 [some (.ref r0), some (.int x1)] [] σ Q := by
  refine r_g (pc' := 1) (ls' := [some (.ref r0), some (.int x1)]) (st' := [.ref r0]) dX3_hasGiven_0 (fun _ => rfl) ?_
  refine r_g (pc' := 2) (ls' := [some (.ref r0), some (.int x1)]) (st' := [.int x1, .ref r0]) dX3_hasGiven_1 (fun _ => rfl) ?_
  obtain ⟨hK, h⟩ := h
  exact r_call (th := false) dX3_hasGiven_2 (fun _ => ex_calV rfl (by decide)) rfl (Nat.le_of_ble_eq_true rfl) (Nat.le_of_ble_eq_true rfl) (Nat.le_of_ble_eq_true rfl) (rcv0 rfl rfl (by decide) hK) rfl rfl rfl (fun q => nomatch q) h
theorem b30_5 {g : Nat → Nat} {C S : Nat} {σ : PS} {Q : Rs → PS → Prop} {l0 : Option Value} {l1 : Option Value} {w0 : Nat}
    (h : zK σ w0 = 4 ∧ WP g C S 17 0 [some (.ref w0)] [] σ (KK g C S 30 8 [l0, l1] [] Q false)) :
    WP g C S 30 5 [l0, l1] [.ref w0] σ Q := by
  obtain ⟨hK, h⟩ := h
  exact r_call (th := false) dX3_hasGiven_5 (fun _ => ex_calV rfl (by decide)) rfl (Nat.le_of_ble_eq_true rfl) (Nat.le_of_ble_eq_true rfl) (Nat.le_of_ble_eq_true rfl) (rcv0 rfl rfl (by decide) hK) rfl rfl rfl (fun q => nomatch q) h
theorem b30_8 {g : Nat → Nat} {C S : Nat} {σ : PS} {Q : Rs → PS → Prop} {l0 : Option Value} {l1 : Option Value} {u0 : Int32}
    (h : ((u0 : Int32) = 0 ∨ u0 = 1) ∧ Q (Sum.inl (some (.int u0))) σ) :
    WP g C S 30 8 [l0, l1] [.int u0] σ Q := by
  obtain ⟨hn, h⟩ := h
  exact r_ret dX3_hasGiven_8 (by rcases hn with q | q <;> rw [q] <;> rfl) h
theorem b31_0 {g : Nat → Nat} {C S : Nat} {σ : PS} {Q : Rs → PS → Prop} {r0 : Nat} {x1 : Int32} {r2 : Nat}
    (h : zK σ r0 = 5 ∧ WP g C S 29 0 [some (.ref r0), some (.int x1)] [] σ (KK g C S 31 6 [some (.ref r0), some (.int x1), some (.ref r2)] [.ref r0] Q false)) :
    WP g C S 31 0 [some (.ref r0), some (.int x1), some (.ref r2)] [] σ Q := by
  refine r_g (pc' := 1) (ls' := [some (.ref r0), some (.int x1), some (.ref r2)]) (st' := [.ref r0]) dX3_addName_0 (fun _ => rfl) ?_
  refine r_g (pc' := 2) (ls' := [some (.ref r0), some (.int x1), some (.ref r2)]) (st' := [.ref r0, .ref r0]) dX3_addName_1 (fun _ => rfl) ?_
  refine r_g (pc' := 3) (ls' := [some (.ref r0), some (.int x1), some (.ref r2)]) (st' := [.int x1, .ref r0, .ref r0]) dX3_addName_2 (fun _ => rfl) ?_
  obtain ⟨hK, h⟩ := h
  exact r_call (th := false) dX3_addName_3 (fun _ => ex_calV rfl (by decide)) rfl (Nat.le_of_ble_eq_true rfl) (Nat.le_of_ble_eq_true rfl) (Nat.le_of_ble_eq_true rfl) (rcv0 rfl rfl (by decide) hK) rfl rfl rfl (fun q => nomatch q) h
theorem b31_6 {g : Nat → Nat} {C S : Nat} {σ : PS} {Q : Rs → PS → Prop} {r0 : Nat} {x1 : Int32} {r2 : Nat} {w0 : Nat} {w1 : Nat}
    (h : zK σ w0 = 4 ∧ zK σ r0 = 5 ∧ WP g C S 29 0 [some (.ref r0), some (.int x1)] [] σ (KK g C S 31 14 [some (.ref r0), some (.int x1), some (.ref r2)] [.int (zI σ w0 2), .ref w1] Q false)) :
    WP g C S 31 6 [some (.ref r0), some (.int x1), some (.ref r2)] [.ref w0, .ref w1] σ Q := by
  obtain ⟨hK, h⟩ := h
  refine r_getI dX3_addName_6 rfl (by decide) rfl hK ?_
  refine r_g (pc' := 10) (ls' := [some (.ref r0), some (.int x1), some (.ref r2)]) (st' := [.ref r0, .int (zI σ w0 2), .ref w1]) dX3_addName_9 (fun _ => rfl) ?_
  refine r_g (pc' := 11) (ls' := [some (.ref r0), some (.int x1), some (.ref r2)]) (st' := [.int x1, .ref r0, .int (zI σ w0 2), .ref w1]) dX3_addName_10 (fun _ => rfl) ?_
  obtain ⟨hK, h⟩ := h
  exact r_call (th := false) dX3_addName_11 (fun _ => ex_calV rfl (by decide)) rfl (Nat.le_of_ble_eq_true rfl) (Nat.le_of_ble_eq_true rfl) (Nat.le_of_ble_eq_true rfl) (rcv0 rfl rfl (by decide) hK) rfl rfl rfl (fun q => nomatch q) h
theorem b31_14 {g : Nat → Nat} {C S : Nat} {σ : PS} {Q : Rs → PS → Prop} {l0 : Option Value} {l1 : Option Value} {r2 : Nat} {w0 : Nat} {u1 : Int32} {w2 : Nat}
    (h : zK σ w0 = 4 ∧ zK σ w2 = 5 ∧ WP g C S 34 0 [some (.ref w2), some (.int u1), some (.int (zI σ w0 4)), some (.ref r2), none, none] [] σ (KK g C S 31 21 [l0, l1, some (.ref r2)] [] Q false)) :
    WP g C S 31 14 [l0, l1, some (.ref r2)] [.ref w0, .int u1, .ref w2] σ Q := by
  obtain ⟨hK, h⟩ := h
  refine r_getI dX3_addName_14 rfl (by decide) rfl hK ?_
  refine r_g (pc' := 18) (ls' := [l0, l1, some (.ref r2)]) (st' := [.ref r2, .int (zI σ w0 4), .int u1, .ref w2]) dX3_addName_17 (fun _ => rfl) ?_
  obtain ⟨hK, h⟩ := h
  exact r_call (th := false) dX3_addName_18 (fun _ => ex_calV rfl (by decide)) rfl (Nat.le_of_ble_eq_true rfl) (Nat.le_of_ble_eq_true rfl) (Nat.le_of_ble_eq_true rfl) (rcv0 rfl rfl (by decide) hK) rfl rfl rfl (fun q => nomatch q) h
theorem b31_21 {g : Nat → Nat} {C S : Nat} {σ : PS} {Q : Rs → PS → Prop} {l0 : Option Value} {l1 : Option Value} {l2 : Option Value}
    (h : Q (Sum.inl none) σ) :
    WP g C S 31 21 [l0, l1, l2] [] σ Q := by
  exact r_vret dX3_addName_21 rfl h
theorem b32_0 {g : Nat → Nat} {C S : Nat} {σ : PS} {Q : Rs → PS → Prop} {r0 : Nat} {x1 : Int32} {r2 : Nat}
    (h : zK σ r0 = 5 ∧ WP g C S 29 0 [some (.ref r0), some (.int x1)] [] σ (KK g C S 32 6 [some (.ref r0), some (.int x1), some (.ref r2)] [.ref r0] Q false)) :
    WP g C S 32 0 [some (.ref r0), some (.int x1), some (.ref r2)] [] σ Q := by
  refine r_g (pc' := 1) (ls' := [some (.ref r0), some (.int x1), some (.ref r2)]) (st' := [.ref r0]) dX3_addFamily_0 (fun _ => rfl) ?_
  refine r_g (pc' := 2) (ls' := [some (.ref r0), some (.int x1), some (.ref r2)]) (st' := [.ref r0, .ref r0]) dX3_addFamily_1 (fun _ => rfl) ?_
  refine r_g (pc' := 3) (ls' := [some (.ref r0), some (.int x1), some (.ref r2)]) (st' := [.int x1, .ref r0, .ref r0]) dX3_addFamily_2 (fun _ => rfl) ?_
  obtain ⟨hK, h⟩ := h
  exact r_call (th := false) dX3_addFamily_3 (fun _ => ex_calV rfl (by decide)) rfl (Nat.le_of_ble_eq_true rfl) (Nat.le_of_ble_eq_true rfl) (Nat.le_of_ble_eq_true rfl) (rcv0 rfl rfl (by decide) hK) rfl rfl rfl (fun q => nomatch q) h
theorem b32_6 {g : Nat → Nat} {C S : Nat} {σ : PS} {Q : Rs → PS → Prop} {r0 : Nat} {x1 : Int32} {r2 : Nat} {w0 : Nat} {w1 : Nat}
    (h : zK σ w0 = 4 ∧ zK σ r0 = 5 ∧ WP g C S 29 0 [some (.ref r0), some (.int x1)] [] σ (KK g C S 32 14 [some (.ref r0), some (.int x1), some (.ref r2)] [.int (zI σ w0 3), .ref w1] Q false)) :
    WP g C S 32 6 [some (.ref r0), some (.int x1), some (.ref r2)] [.ref w0, .ref w1] σ Q := by
  obtain ⟨hK, h⟩ := h
  refine r_getI dX3_addFamily_6 rfl (by decide) rfl hK ?_
  refine r_g (pc' := 10) (ls' := [some (.ref r0), some (.int x1), some (.ref r2)]) (st' := [.ref r0, .int (zI σ w0 3), .ref w1]) dX3_addFamily_9 (fun _ => rfl) ?_
  refine r_g (pc' := 11) (ls' := [some (.ref r0), some (.int x1), some (.ref r2)]) (st' := [.int x1, .ref r0, .int (zI σ w0 3), .ref w1]) dX3_addFamily_10 (fun _ => rfl) ?_
  obtain ⟨hK, h⟩ := h
  exact r_call (th := false) dX3_addFamily_11 (fun _ => ex_calV rfl (by decide)) rfl (Nat.le_of_ble_eq_true rfl) (Nat.le_of_ble_eq_true rfl) (Nat.le_of_ble_eq_true rfl) (rcv0 rfl rfl (by decide) hK) rfl rfl rfl (fun q => nomatch q) h
theorem b32_14 {g : Nat → Nat} {C S : Nat} {σ : PS} {Q : Rs → PS → Prop} {l0 : Option Value} {l1 : Option Value} {r2 : Nat} {w0 : Nat} {u1 : Int32} {w2 : Nat}
    (h : zK σ w0 = 4 ∧ zK σ w2 = 5 ∧ WP g C S 34 0 [some (.ref w2), some (.int u1), some (.int (zI σ w0 4)), some (.ref r2), none, none] [] σ (KK g C S 32 21 [l0, l1, some (.ref r2)] [] Q false)) :
    WP g C S 32 14 [l0, l1, some (.ref r2)] [.ref w0, .int u1, .ref w2] σ Q := by
  obtain ⟨hK, h⟩ := h
  refine r_getI dX3_addFamily_14 rfl (by decide) rfl hK ?_
  refine r_g (pc' := 18) (ls' := [l0, l1, some (.ref r2)]) (st' := [.ref r2, .int (zI σ w0 4), .int u1, .ref w2]) dX3_addFamily_17 (fun _ => rfl) ?_
  obtain ⟨hK, h⟩ := h
  exact r_call (th := false) dX3_addFamily_18 (fun _ => ex_calV rfl (by decide)) rfl (Nat.le_of_ble_eq_true rfl) (Nat.le_of_ble_eq_true rfl) (Nat.le_of_ble_eq_true rfl) (rcv0 rfl rfl (by decide) hK) rfl rfl rfl (fun q => nomatch q) h
theorem b32_21 {g : Nat → Nat} {C S : Nat} {σ : PS} {Q : Rs → PS → Prop} {l0 : Option Value} {l1 : Option Value} {l2 : Option Value}
    (h : Q (Sum.inl none) σ) :
    WP g C S 32 21 [l0, l1, l2] [] σ Q := by
  exact r_vret dX3_addFamily_21 rfl h
theorem b33_0 {g : Nat → Nat} {C S : Nat} {σ : PS} {Q : Rs → PS → Prop} {r0 : Nat} {x1 : Int32} {r2 : Nat} {l3 : Option Value} {l4 : Option Value}
    (h : zK σ r0 = 5 ∧ WP g C S 29 0 [some (.ref r0), some (.int x1)] [] σ (KK g C S 33 5 [some (.ref r0), some (.int x1), some (.ref r2), l3, l4] [] Q false)) :
    WP g C S 33 0 [some (.ref r0), some (.int x1), some (.ref r2), l3, l4] [] σ Q := by
  refine r_g (pc' := 1) (ls' := [some (.ref r0), some (.int x1), some (.ref r2), l3, l4]) (st' := [.ref r0]) dX3_addInitials_0 (fun _ => rfl) ?_
  refine r_g (pc' := 2) (ls' := [some (.ref r0), some (.int x1), some (.ref r2), l3, l4]) (st' := [.int x1, .ref r0]) dX3_addInitials_1 (fun _ => rfl) ?_
  obtain ⟨hK, h⟩ := h
  exact r_call (th := false) dX3_addInitials_2 (fun _ => ex_calV rfl (by decide)) rfl (Nat.le_of_ble_eq_true rfl) (Nat.le_of_ble_eq_true rfl) (Nat.le_of_ble_eq_true rfl) (rcv0 rfl rfl (by decide) hK) rfl rfl rfl (fun q => nomatch q) h
theorem b33_5 {g : Nat → Nat} {C S : Nat} {σ : PS} {Q : Rs → PS → Prop} {r0 : Nat} {l1 : Option Value} {r2 : Nat} {l3 : Option Value} {l4 : Option Value} {w0 : Nat}
    (h : zK σ w0 = 4 ∧ WP g C S 33 12 [some (.ref r0), l1, some (.ref r2), some (.ref w0), some (.int (zI σ w0 0))] [] σ Q) :
    WP g C S 33 5 [some (.ref r0), l1, some (.ref r2), l3, l4] [.ref w0] σ Q := by
  refine r_g (pc' := 6) (ls' := [some (.ref r0), l1, some (.ref r2), some (.ref w0), l4]) (st' := []) dX3_addInitials_5 (fun _ => rfl) ?_
  refine r_g (pc' := 7) (ls' := [some (.ref r0), l1, some (.ref r2), some (.ref w0), l4]) (st' := [.ref w0]) dX3_addInitials_6 (fun _ => rfl) ?_
  obtain ⟨hK, h⟩ := h
  refine r_getI dX3_addInitials_7 rfl (by decide) rfl hK ?_
  refine r_g (pc' := 12) (ls' := [some (.ref r0), l1, some (.ref r2), some (.ref w0), some (.int (zI σ w0 0))]) (st' := []) dX3_addInitials_10 (fun _ => rfl) ?_
  exact h
theorem b33_12 {g : Nat → Nat} {C S : Nat} {σ : PS} {Q : Rs → PS → Prop} {r0 : Nat} {l1 : Option Value} {r2 : Nat} {r3 : Nat} {x4 : Int32}
    (h : zK σ r3 = 4 ∧ ((zI σ r3 1 : Int32) ≤ x4 → Q (Sum.inl none) σ) ∧ (¬ ((zI σ r3 1 : Int32) ≤ x4) → zK σ r3 = 4 ∧ ((x4 : Int32) ≤ (zI σ r3 0) → WP g C S 33 36 [some (.ref r0), l1, some (.ref r2), some (.ref r3), some (.int x4)] [] σ Q) ∧ (¬ ((x4 : Int32) ≤ (zI σ r3 0)) → zK σ r2 = 7 ∧ WP g C S 57 0 [some (.ref r2), some (.int 32), none] [] σ (KK g C S 33 36 [some (.ref r0), l1, some (.ref r2), some (.ref r3), some (.int x4)] [] Q false)))) :
    WP g C S 33 12 [some (.ref r0), l1, some (.ref r2), some (.ref r3), some (.int x4)] [] σ Q := by
  refine r_g (pc' := 14) (ls' := [some (.ref r0), l1, some (.ref r2), some (.ref r3), some (.int x4)]) (st' := [.int x4]) dX3_addInitials_12 (fun _ => rfl) ?_
  refine r_g (pc' := 15) (ls' := [some (.ref r0), l1, some (.ref r2), some (.ref r3), some (.int x4)]) (st' := [.ref r3, .int x4]) dX3_addInitials_14 (fun _ => rfl) ?_
  obtain ⟨hK, h⟩ := h
  refine r_getI dX3_addInitials_15 rfl (by decide) rfl hK ?_
  obtain ⟨h1, h2⟩ := h
  refine r_icmp (t := 65) dX3_addInitials_18 (by decide) c_ge (fun c => ?_) (fun c => ?_)
  · have h := h1 c
    exact r_vret dX3_addInitials_65 rfl h
  · have h := h2 c
    refine r_g (pc' := 23) (ls' := [some (.ref r0), l1, some (.ref r2), some (.ref r3), some (.int x4)]) (st' := [.int x4]) dX3_addInitials_21 (fun _ => rfl) ?_
    refine r_g (pc' := 24) (ls' := [some (.ref r0), l1, some (.ref r2), some (.ref r3), some (.int x4)]) (st' := [.ref r3, .int x4]) dX3_addInitials_23 (fun _ => rfl) ?_
    obtain ⟨hK, h⟩ := h
    refine r_getI dX3_addInitials_24 rfl (by decide) rfl hK ?_
    obtain ⟨h1, h2⟩ := h
    refine r_icmp (t := 36) dX3_addInitials_27 (by decide) c_le (fun c => ?_) (fun c => ?_)
    · have h := h1 c
      exact h
    · have h := h2 c
      refine r_g (pc' := 31) (ls' := [some (.ref r0), l1, some (.ref r2), some (.ref r3), some (.int x4)]) (st' := [.ref r2]) dX3_addInitials_30 (fun _ => rfl) ?_
      refine r_bi (v := 32) dX3_addInitials_31 (by decide) ?_
      obtain ⟨hK, h⟩ := h
      exact r_call (th := false) dX3_addInitials_33 (fun _ => ex_calV rfl (by decide)) rfl (Nat.le_of_ble_eq_true rfl) (Nat.le_of_ble_eq_true rfl) (Nat.le_of_ble_eq_true rfl) (rcv0 rfl rfl (by decide) hK) rfl rfl rfl (fun q => nomatch q) h
theorem b33_36 {g : Nat → Nat} {C S : Nat} {σ : PS} {Q : Rs → PS → Prop} {r0 : Nat} {l1 : Option Value} {r2 : Nat} {r3 : Nat} {x4 : Int32}
    (h : zK σ r0 = 5 ∧ ∃ b1, zP σ r0 0 = some b1 ∧ (zK σ r0 = 5 ∧ WP g C S 28 0 [some (.ref r0), some (.int x4)] [] σ (KK g C S 33 47 [some (.ref r0), l1, some (.ref r2), some (.ref r3), some (.int x4)] [.ref b1, .ref r2] Q false))) :
    WP g C S 33 36 [some (.ref r0), l1, some (.ref r2), some (.ref r3), some (.int x4)] [] σ Q := by
  refine r_g (pc' := 37) (ls' := [some (.ref r0), l1, some (.ref r2), some (.ref r3), some (.int x4)]) (st' := [.ref r2]) dX3_addInitials_36 (fun _ => rfl) ?_
  refine r_g (pc' := 38) (ls' := [some (.ref r0), l1, some (.ref r2), some (.ref r3), some (.int x4)]) (st' := [.ref r0, .ref r2]) dX3_addInitials_37 (fun _ => rfl) ?_
  obtain ⟨hK, b1, hP, h⟩ := h
  refine r_getP dX3_addInitials_38 rfl (by decide) rfl hK hP ?_
  refine r_g (pc' := 42) (ls' := [some (.ref r0), l1, some (.ref r2), some (.ref r3), some (.int x4)]) (st' := [.ref r0, .ref b1, .ref r2]) dX3_addInitials_41 (fun _ => rfl) ?_
  refine r_g (pc' := 44) (ls' := [some (.ref r0), l1, some (.ref r2), some (.ref r3), some (.int x4)]) (st' := [.int x4, .ref r0, .ref b1, .ref r2]) dX3_addInitials_42 (fun _ => rfl) ?_
  obtain ⟨hK, h⟩ := h
  exact r_call (th := false) dX3_addInitials_44 (fun _ => ex_calV rfl (by decide)) rfl (Nat.le_of_ble_eq_true rfl) (Nat.le_of_ble_eq_true rfl) (Nat.le_of_ble_eq_true rfl) (rcv0 rfl rfl (by decide) hK) rfl rfl rfl (fun q => nomatch q) h
theorem b33_47 {g : Nat → Nat} {C S : Nat} {σ : PS} {Q : Rs → PS → Prop} {r0 : Nat} {l1 : Option Value} {r2 : Nat} {r3 : Nat} {x4 : Int32} {u0 : Int32} {w1 : Nat} {w2 : Nat}
    (h : zK σ w1 = 7 ∧ WP g C S 56 0 [some (.ref w1), some (.int u0)] [] σ (KK g C S 33 50 [some (.ref r0), l1, some (.ref r2), some (.ref r3), some (.int x4)] [.ref w2] Q false)) :
    WP g C S 33 47 [some (.ref r0), l1, some (.ref r2), some (.ref r3), some (.int x4)] [.int u0, .ref w1, .ref w2] σ Q := by
  obtain ⟨hK, h⟩ := h
  exact r_call (th := false) dX3_addInitials_47 (fun _ => ex_calV rfl (by decide)) rfl (Nat.le_of_ble_eq_true rfl) (Nat.le_of_ble_eq_true rfl) (Nat.le_of_ble_eq_true rfl) (rcv0 rfl rfl (by decide) hK) rfl rfl rfl (fun q => nomatch q) h
theorem b33_50 {g : Nat → Nat} {C S : Nat} {σ : PS} {Q : Rs → PS → Prop} {r0 : Nat} {l1 : Option Value} {r2 : Nat} {r3 : Nat} {x4 : Int32} {u0 : Int32} {w1 : Nat}
    (h : zK σ w1 = 7 ∧ WP g C S 57 0 [some (.ref w1), some (.int u0), none] [] σ (KK g C S 33 53 [some (.ref r0), l1, some (.ref r2), some (.ref r3), some (.int x4)] [] Q false)) :
    WP g C S 33 50 [some (.ref r0), l1, some (.ref r2), some (.ref r3), some (.int x4)] [.int u0, .ref w1] σ Q := by
  obtain ⟨hK, h⟩ := h
  exact r_call (th := false) dX3_addInitials_50 (fun _ => ex_calV rfl (by decide)) rfl (Nat.le_of_ble_eq_true rfl) (Nat.le_of_ble_eq_true rfl) (Nat.le_of_ble_eq_true rfl) (rcv0 rfl rfl (by decide) hK) rfl rfl rfl (fun q => nomatch q) h
theorem b33_53 {g : Nat → Nat} {C S : Nat} {σ : PS} {Q : Rs → PS → Prop} {r0 : Nat} {l1 : Option Value} {r2 : Nat} {r3 : Nat} {x4 : Int32}
    (h : zK σ r2 = 7 ∧ WP g C S 57 0 [some (.ref r2), some (.int 46), none] [] σ (KK g C S 33 59 [some (.ref r0), l1, some (.ref r2), some (.ref r3), some (.int x4)] [] Q false)) :
    WP g C S 33 53 [some (.ref r0), l1, some (.ref r2), some (.ref r3), some (.int x4)] [] σ Q := by
  refine r_g (pc' := 54) (ls' := [some (.ref r0), l1, some (.ref r2), some (.ref r3), some (.int x4)]) (st' := [.ref r2]) dX3_addInitials_53 (fun _ => rfl) ?_
  refine r_bi (v := 46) dX3_addInitials_54 (by decide) ?_
  obtain ⟨hK, h⟩ := h
  exact r_call (th := false) dX3_addInitials_56 (fun _ => ex_calV rfl (by decide)) rfl (Nat.le_of_ble_eq_true rfl) (Nat.le_of_ble_eq_true rfl) (Nat.le_of_ble_eq_true rfl) (rcv0 rfl rfl (by decide) hK) rfl rfl rfl (fun q => nomatch q) h
theorem b33_59 {g : Nat → Nat} {C S : Nat} {σ : PS} {Q : Rs → PS → Prop} {r0 : Nat} {l1 : Option Value} {r2 : Nat} {r3 : Nat} {x4 : Int32}
    (h : WP g C S 33 12 [some (.ref r0), l1, some (.ref r2), some (.ref r3), some (.int (x4 + 1))] [] σ Q) :
    WP g C S 33 59 [some (.ref r0), l1, some (.ref r2), some (.ref r3), some (.int x4)] [] σ Q := by
  refine r_inc (v := 1) (ls' := [some (.ref r0), l1, some (.ref r2), some (.ref r3), some (.int (x4 + 1))]) dX3_addInitials_59 rfl (Nat.le_of_ble_eq_true rfl) (by decide) rfl ?_
  refine r_goto (t := 12) dX3_addInitials_62 (by decide) ?_
  exact h
theorem b34_0 {g : Nat → Nat} {C S : Nat} {σ : PS} {Q : Rs → PS → Prop} {r0 : Nat} {x1 : Int32} {x2 : Int32} {r3 : Nat} {l4 : Option Value} {l5 : Option Value}
    (h : WP g C S 34 7 [some (.ref r0), some (.int x1), some (.int x2), some (.ref r3), some (.int (if (x1 : Int32) < 0 then 0 else x1)), l5] [] σ Q) :
    WP g C S 34 0 [some (.ref r0), some (.int x1), some (.int x2), some (.ref r3), l4, l5] [] σ Q := by
  refine r_g (pc' := 1) (ls' := [some (.ref r0), some (.int x1), some (.int x2), some (.ref r3), l4, l5]) (st' := [.int x1]) dX3_addWords_0 (fun _ => rfl) ?_
  refine r_ic (v := 0) dX3_addWords_1 (by decide) ?_
  refine r_max dX3_addWords_2 rfl ⟨Nat.le_of_ble_eq_true rfl, Nat.le_of_ble_eq_true rfl, Nat.le_of_ble_eq_true rfl⟩ ?_
  refine r_g (pc' := 7) (ls' := [some (.ref r0), some (.int x1), some (.int x2), some (.ref r3), some (.int (if (x1 : Int32) < 0 then 0 else x1)), l5]) (st' := []) dX3_addWords_5 (fun _ => rfl) ?_
  exact h
theorem b34_7 {g : Nat → Nat} {C S : Nat} {σ : PS} {Q : Rs → PS → Prop} {r0 : Nat} {x1 : Int32} {x2 : Int32} {r3 : Nat} {x4 : Int32} {l5 : Option Value}
    (h : ((x2 : Int32) ≤ x4 → WP g C S 34 80 [some (.ref r0), some (.int x1), some (.int x2), some (.ref r3), some (.int x4), l5] [] σ Q) ∧ (¬ ((x2 : Int32) ≤ x4) → zK σ r0 = 5 ∧ ((zI σ r0 3 : Int32) ≤ x4 → WP g C S 34 80 [some (.ref r0), some (.int x1), some (.int x2), some (.ref r3), some (.int x4), l5] [] σ Q) ∧ (¬ ((zI σ r0 3 : Int32) ≤ x4) → ((x4 : Int32) ≤ x1 → WP g C S 34 34 [some (.ref r0), some (.int x1), some (.int x2), some (.ref r3), some (.int x4), l5] [] σ Q) ∧ (¬ ((x4 : Int32) ≤ x1) → zK σ r3 = 7 ∧ WP g C S 57 0 [some (.ref r3), some (.int 32), none] [] σ (KK g C S 34 34 [some (.ref r0), some (.int x1), some (.int x2), some (.ref r3), some (.int x4), l5] [] Q false))))) :
    WP g C S 34 7 [some (.ref r0), some (.int x1), some (.int x2), some (.ref r3), some (.int x4), l5] [] σ Q := by
  refine r_g (pc' := 9) (ls' := [some (.ref r0), some (.int x1), some (.int x2), some (.ref r3), some (.int x4), l5]) (st' := [.int x4]) dX3_addWords_7 (fun _ => rfl) ?_
  refine r_g (pc' := 10) (ls' := [some (.ref r0), some (.int x1), some (.int x2), some (.ref r3), some (.int x4), l5]) (st' := [.int x2, .int x4]) dX3_addWords_9 (fun _ => rfl) ?_
  obtain ⟨h1, h2⟩ := h
  refine r_icmp (t := 80) dX3_addWords_10 (by decide) c_ge (fun c => ?_) (fun c => ?_)
  · have h := h1 c
    exact h
  · have h := h2 c
    refine r_g (pc' := 15) (ls' := [some (.ref r0), some (.int x1), some (.int x2), some (.ref r3), some (.int x4), l5]) (st' := [.int x4]) dX3_addWords_13 (fun _ => rfl) ?_
    refine r_g (pc' := 16) (ls' := [some (.ref r0), some (.int x1), some (.int x2), some (.ref r3), some (.int x4), l5]) (st' := [.ref r0, .int x4]) dX3_addWords_15 (fun _ => rfl) ?_
    obtain ⟨hK, h⟩ := h
    refine r_getI dX3_addWords_16 rfl (by decide) rfl hK ?_
    obtain ⟨h1, h2⟩ := h
    refine r_icmp (t := 80) dX3_addWords_19 (by decide) c_ge (fun c => ?_) (fun c => ?_)
    · have h := h1 c
      exact h
    · have h := h2 c
      refine r_g (pc' := 24) (ls' := [some (.ref r0), some (.int x1), some (.int x2), some (.ref r3), some (.int x4), l5]) (st' := [.int x4]) dX3_addWords_22 (fun _ => rfl) ?_
      refine r_g (pc' := 25) (ls' := [some (.ref r0), some (.int x1), some (.int x2), some (.ref r3), some (.int x4), l5]) (st' := [.int x1, .int x4]) dX3_addWords_24 (fun _ => rfl) ?_
      obtain ⟨h1, h2⟩ := h
      refine r_icmp (t := 34) dX3_addWords_25 (by decide) c_le (fun c => ?_) (fun c => ?_)
      · have h := h1 c
        exact h
      · have h := h2 c
        refine r_g (pc' := 29) (ls' := [some (.ref r0), some (.int x1), some (.int x2), some (.ref r3), some (.int x4), l5]) (st' := [.ref r3]) dX3_addWords_28 (fun _ => rfl) ?_
        refine r_bi (v := 32) dX3_addWords_29 (by decide) ?_
        obtain ⟨hK, h⟩ := h
        exact r_call (th := false) dX3_addWords_31 (fun _ => ex_calV rfl (by decide)) rfl (Nat.le_of_ble_eq_true rfl) (Nat.le_of_ble_eq_true rfl) (Nat.le_of_ble_eq_true rfl) (rcv0 rfl rfl (by decide) hK) rfl rfl rfl (fun q => nomatch q) h
theorem b34_34 {g : Nat → Nat} {C S : Nat} {σ : PS} {Q : Rs → PS → Prop} {r0 : Nat} {x1 : Int32} {x2 : Int32} {r3 : Nat} {x4 : Int32} {l5 : Option Value}
    (h : zK σ r0 = 5 ∧ ∃ b1, zP σ r0 1 = some b1 ∧ (∃ n2 : Nat, x4 = nI n2 ∧ n2 < 2147483648 ∧ (zK σ b1 = 101 ∨ zK σ b1 = 1002) ∧ n2 < zL σ b1 ∧ (WP g C S 34 43 [some (.ref r0), some (.int x1), some (.int x2), some (.ref r3), some (.int x4), some (.int (zI σ b1 n2))] [] σ Q))) :
    WP g C S 34 34 [some (.ref r0), some (.int x1), some (.int x2), some (.ref r3), some (.int x4), l5] [] σ Q := by
  refine r_g (pc' := 35) (ls' := [some (.ref r0), some (.int x1), some (.int x2), some (.ref r3), some (.int x4), l5]) (st' := [.ref r0]) dX3_addWords_34 (fun _ => rfl) ?_
  obtain ⟨hK, b1, hP, h⟩ := h
  refine r_getP dX3_addWords_35 rfl (by decide) rfl hK hP ?_
  refine r_g (pc' := 40) (ls' := [some (.ref r0), some (.int x1), some (.int x2), some (.ref r3), some (.int x4), l5]) (st' := [.int x4, .ref b1]) dX3_addWords_38 (fun _ => rfl) ?_
  obtain ⟨n2, hj, hn, hK, hL, h⟩ := h
  refine r_iald dX3_addWords_40 hj hn hK hL ?_
  refine r_g (pc' := 43) (ls' := [some (.ref r0), some (.int x1), some (.int x2), some (.ref r3), some (.int x4), some (.int (zI σ b1 n2))]) (st' := []) dX3_addWords_41 (fun _ => rfl) ?_
  exact h
theorem b34_43 {g : Nat → Nat} {C S : Nat} {σ : PS} {Q : Rs → PS → Prop} {r0 : Nat} {x1 : Int32} {x2 : Int32} {r3 : Nat} {x4 : Int32} {x5 : Int32}
    (h : zK σ r0 = 5 ∧ ∃ b1, zP σ r0 2 = some b1 ∧ (∃ n2 : Nat, x4 = nI n2 ∧ n2 < 2147483648 ∧ (zK σ b1 = 101 ∨ zK σ b1 = 1002) ∧ n2 < zL σ b1 ∧ (((zI σ b1 n2 : Int32) ≤ x5 → WP g C S 34 7 [some (.ref r0), some (.int x1), some (.int x2), some (.ref r3), some (.int (x4 + 1)), some (.int x5)] [] σ Q) ∧ (¬ ((zI σ b1 n2 : Int32) ≤ x5) → zK σ r0 = 5 ∧ ∃ b3, zP σ r0 0 = some b3 ∧ (zK σ b3 = 7 ∧ WP g C S 56 0 [some (.ref b3), some (.int x5)] [] σ (KK g C S 34 65 [some (.ref r0), some (.int x1), some (.int x2), some (.ref r3), some (.int x4), some (.int x5)] [.ref r3] Q false)))))) :
    WP g C S 34 43 [some (.ref r0), some (.int x1), some (.int x2), some (.ref r3), some (.int x4), some (.int x5)] [] σ Q := by
  refine r_g (pc' := 45) (ls' := [some (.ref r0), some (.int x1), some (.int x2), some (.ref r3), some (.int x4), some (.int x5)]) (st' := [.int x5]) dX3_addWords_43 (fun _ => rfl) ?_
  refine r_g (pc' := 46) (ls' := [some (.ref r0), some (.int x1), some (.int x2), some (.ref r3), some (.int x4), some (.int x5)]) (st' := [.ref r0, .int x5]) dX3_addWords_45 (fun _ => rfl) ?_
  obtain ⟨hK, b1, hP, h⟩ := h
  refine r_getP dX3_addWords_46 rfl (by decide) rfl hK hP ?_
  refine r_g (pc' := 51) (ls' := [some (.ref r0), some (.int x1), some (.int x2), some (.ref r3), some (.int x4), some (.int x5)]) (st' := [.int x4, .ref b1, .int x5]) dX3_addWords_49 (fun _ => rfl) ?_
  obtain ⟨n2, hj, hn, hK, hL, h⟩ := h
  refine r_iald dX3_addWords_51 hj hn hK hL ?_
  obtain ⟨h1, h2⟩ := h
  refine r_icmp (t := 74) dX3_addWords_52 (by decide) c_ge (fun c => ?_) (fun c => ?_)
  · have h := h1 c
    refine r_inc (v := 1) (ls' := [some (.ref r0), some (.int x1), some (.int x2), some (.ref r3), some (.int (x4 + 1)), some (.int x5)]) dX3_addWords_74 rfl (Nat.le_of_ble_eq_true rfl) (by decide) rfl ?_
    refine r_goto (t := 7) dX3_addWords_77 (by decide) ?_
    exact h
  · have h := h2 c
    refine r_g (pc' := 56) (ls' := [some (.ref r0), some (.int x1), some (.int x2), some (.ref r3), some (.int x4), some (.int x5)]) (st' := [.ref r3]) dX3_addWords_55 (fun _ => rfl) ?_
    refine r_g (pc' := 57) (ls' := [some (.ref r0), some (.int x1), some (.int x2), some (.ref r3), some (.int x4), some (.int x5)]) (st' := [.ref r0, .ref r3]) dX3_addWords_56 (fun _ => rfl) ?_
    obtain ⟨hK, b3, hP, h⟩ := h
    refine r_getP dX3_addWords_57 rfl (by decide) rfl hK hP ?_
    refine r_g (pc' := 62) (ls' := [some (.ref r0), some (.int x1), some (.int x2), some (.ref r3), some (.int x4), some (.int x5)]) (st' := [.int x5, .ref b3, .ref r3]) dX3_addWords_60 (fun _ => rfl) ?_
    obtain ⟨hK, h⟩ := h
    exact r_call (th := false) dX3_addWords_62 (fun _ => ex_calV rfl (by decide)) rfl (Nat.le_of_ble_eq_true rfl) (Nat.le_of_ble_eq_true rfl) (Nat.le_of_ble_eq_true rfl) (rcv0 rfl rfl (by decide) hK) rfl rfl rfl (fun q => nomatch q) h
theorem b34_65 {g : Nat → Nat} {C S : Nat} {σ : PS} {Q : Rs → PS → Prop} {r0 : Nat} {x1 : Int32} {x2 : Int32} {r3 : Nat} {x4 : Int32} {x5 : Int32} {u0 : Int32} {w1 : Nat}
    (h : zK σ w1 = 7 ∧ WP g C S 57 0 [some (.ref w1), some (.int u0), none] [] σ (KK g C S 34 68 [some (.ref r0), some (.int x1), some (.int x2), some (.ref r3), some (.int x4), some (.int x5)] [] Q false)) :
    WP g C S 34 65 [some (.ref r0), some (.int x1), some (.int x2), some (.ref r3), some (.int x4), some (.int x5)] [.int u0, .ref w1] σ Q := by
  obtain ⟨hK, h⟩ := h
  exact r_call (th := false) dX3_addWords_65 (fun _ => ex_calV rfl (by decide)) rfl (Nat.le_of_ble_eq_true rfl) (Nat.le_of_ble_eq_true rfl) (Nat.le_of_ble_eq_true rfl) (rcv0 rfl rfl (by decide) hK) rfl rfl rfl (fun q => nomatch q) h
theorem b34_68 {g : Nat → Nat} {C S : Nat} {σ : PS} {Q : Rs → PS → Prop} {r0 : Nat} {x1 : Int32} {x2 : Int32} {r3 : Nat} {x4 : Int32} {x5 : Int32}
    (h : WP g C S 34 43 [some (.ref r0), some (.int x1), some (.int x2), some (.ref r3), some (.int x4), some (.int (x5 + 1))] [] σ Q) :
    WP g C S 34 68 [some (.ref r0), some (.int x1), some (.int x2), some (.ref r3), some (.int x4), some (.int x5)] [] σ Q := by
  refine r_inc (v := 1) (ls' := [some (.ref r0), some (.int x1), some (.int x2), some (.ref r3), some (.int x4), some (.int (x5 + 1))]) dX3_addWords_68 rfl (Nat.le_of_ble_eq_true rfl) (by decide) rfl ?_
  refine r_goto (t := 43) dX3_addWords_71 (by decide) ?_
  exact h
theorem b34_80 {g : Nat → Nat} {C S : Nat} {σ : PS} {Q : Rs → PS → Prop} {l0 : Option Value} {l1 : Option Value} {l2 : Option Value} {l3 : Option Value} {l4 : Option Value} {l5 : Option Value}
    (h : Q (Sum.inl none) σ) :
    WP g C S 34 80 [l0, l1, l2, l3, l4, l5] [] σ Q := by
  exact r_vret dX3_addWords_80 rfl h
theorem b35_0 {g : Nat → Nat} {C S : Nat} {σ : PS} {Q : Rs → PS → Prop} {r0 : Nat} {r1 : Nat} {l2 : Option Value} {l3 : Option Value}
    (h : WP g C S 35 2 [some (.ref r0), some (.ref r1), some (.int 0), l3] [] σ Q) :
    WP g C S 35 0 [some (.ref r0), some (.ref r1), l2, l3] [] σ Q := by
  refine r_ic (v := 0) dX3_addOrder_0 (by decide) ?_
  refine r_g (pc' := 2) (ls' := [some (.ref r0), some (.ref r1), some (.int 0), l3]) (st' := []) dX3_addOrder_1 (fun _ => rfl) ?_
  exact h
theorem b35_2 {g : Nat → Nat} {C S : Nat} {σ : PS} {Q : Rs → PS → Prop} {r0 : Nat} {r1 : Nat} {x2 : Int32} {l3 : Option Value}
    (h : zK σ r0 = 5 ∧ ((zI σ r0 6 : Int32) ≤ x2 → zK σ r1 = 7 ∧ WP g C S 57 0 [some (.ref r1), some (.int 0), none] [] σ (KK g C S 35 81 [some (.ref r0), some (.ref r1), some (.int x2), l3] [] Q false)) ∧ (¬ ((zI σ r0 6 : Int32) ≤ x2) → zK σ r0 = 5 ∧ WP g C S 29 0 [some (.ref r0), some (.int x2)] [] σ (KK g C S 35 15 [some (.ref r0), some (.ref r1), some (.int x2), l3] [] Q false))) :
    WP g C S 35 2 [some (.ref r0), some (.ref r1), some (.int x2), l3] [] σ Q := by
  refine r_g (pc' := 3) (ls' := [some (.ref r0), some (.ref r1), some (.int x2), l3]) (st' := [.int x2]) dX3_addOrder_2 (fun _ => rfl) ?_
  refine r_g (pc' := 4) (ls' := [some (.ref r0), some (.ref r1), some (.int x2), l3]) (st' := [.ref r0, .int x2]) dX3_addOrder_3 (fun _ => rfl) ?_
  obtain ⟨hK, h⟩ := h
  refine r_getI dX3_addOrder_4 rfl (by decide) rfl hK ?_
  obtain ⟨h1, h2⟩ := h
  refine r_icmp (t := 76) dX3_addOrder_7 (by decide) c_ge (fun c => ?_) (fun c => ?_)
  · have h := h1 c
    refine r_g (pc' := 77) (ls' := [some (.ref r0), some (.ref r1), some (.int x2), l3]) (st' := [.ref r1]) dX3_addOrder_76 (fun _ => rfl) ?_
    refine r_ic (v := 0) dX3_addOrder_77 (by decide) ?_
    obtain ⟨hK, h⟩ := h
    exact r_call (th := false) dX3_addOrder_78 (fun _ => ex_calV rfl (by decide)) rfl (Nat.le_of_ble_eq_true rfl) (Nat.le_of_ble_eq_true rfl) (Nat.le_of_ble_eq_true rfl) (rcv0 rfl rfl (by decide) hK) rfl rfl rfl (fun q => nomatch q) h
  · have h := h2 c
    refine r_g (pc' := 11) (ls' := [some (.ref r0), some (.ref r1), some (.int x2), l3]) (st' := [.ref r0]) dX3_addOrder_10 (fun _ => rfl) ?_
    refine r_g (pc' := 12) (ls' := [some (.ref r0), some (.ref r1), some (.int x2), l3]) (st' := [.int x2, .ref r0]) dX3_addOrder_11 (fun _ => rfl) ?_
    obtain ⟨hK, h⟩ := h
    exact r_call (th := false) dX3_addOrder_12 (fun _ => ex_calV rfl (by decide)) rfl (Nat.le_of_ble_eq_true rfl) (Nat.le_of_ble_eq_true rfl) (Nat.le_of_ble_eq_true rfl) (rcv0 rfl rfl (by decide) hK) rfl rfl rfl (fun q => nomatch q) h
theorem b35_15 {g : Nat → Nat} {C S : Nat} {σ : PS} {Q : Rs → PS → Prop} {r0 : Nat} {r1 : Nat} {x2 : Int32} {l3 : Option Value} {w0 : Nat}
    (h : zK σ w0 = 4 ∧ zK σ w0 = 4 ∧ zK σ r0 = 5 ∧ WP g C S 34 0 [some (.ref r0), some (.int (zI σ w0 3)), some (.int (zI σ w0 4)), some (.ref r1), none, none] [] σ (KK g C S 35 29 [some (.ref r0), some (.ref r1), some (.int x2), some (.ref w0)] [] Q false)) :
    WP g C S 35 15 [some (.ref r0), some (.ref r1), some (.int x2), l3] [.ref w0] σ Q := by
  refine r_g (pc' := 16) (ls' := [some (.ref r0), some (.ref r1), some (.int x2), some (.ref w0)]) (st' := []) dX3_addOrder_15 (fun _ => rfl) ?_
  refine r_g (pc' := 17) (ls' := [some (.ref r0), some (.ref r1), some (.int x2), some (.ref w0)]) (st' := [.ref r0]) dX3_addOrder_16 (fun _ => rfl) ?_
  refine r_g (pc' := 18) (ls' := [some (.ref r0), some (.ref r1), some (.int x2), some (.ref w0)]) (st' := [.ref w0, .ref r0]) dX3_addOrder_17 (fun _ => rfl) ?_
  obtain ⟨hK, h⟩ := h
  refine r_getI dX3_addOrder_18 rfl (by decide) rfl hK ?_
  refine r_g (pc' := 22) (ls' := [some (.ref r0), some (.ref r1), some (.int x2), some (.ref w0)]) (st' := [.ref w0, .int (zI σ w0 3), .ref r0]) dX3_addOrder_21 (fun _ => rfl) ?_
  obtain ⟨hK, h⟩ := h
  refine r_getI dX3_addOrder_22 rfl (by decide) rfl hK ?_
  refine r_g (pc' := 26) (ls' := [some (.ref r0), some (.ref r1), some (.int x2), some (.ref w0)]) (st' := [.ref r1, .int (zI σ w0 4), .int (zI σ w0 3), .ref r0]) dX3_addOrder_25 (fun _ => rfl) ?_
  obtain ⟨hK, h⟩ := h
  exact r_call (th := false) dX3_addOrder_26 (fun _ => ex_calV rfl (by decide)) rfl (Nat.le_of_ble_eq_true rfl) (Nat.le_of_ble_eq_true rfl) (Nat.le_of_ble_eq_true rfl) (rcv0 rfl rfl (by decide) hK) rfl rfl rfl (fun q => nomatch q) h
theorem b35_29 {g : Nat → Nat} {C S : Nat} {σ : PS} {Q : Rs → PS → Prop} {r0 : Nat} {r1 : Nat} {x2 : Int32} {r3 : Nat}
    (h : zK σ r1 = 7 ∧ WP g C S 57 0 [some (.ref r1), some (.int 1), none] [] σ (KK g C S 35 34 [some (.ref r0), some (.ref r1), some (.int x2), some (.ref r3)] [] Q false)) :
    WP g C S 35 29 [some (.ref r0), some (.ref r1), some (.int x2), some (.ref r3)] [] σ Q := by
  refine r_g (pc' := 30) (ls' := [some (.ref r0), some (.ref r1), some (.int x2), some (.ref r3)]) (st' := [.ref r1]) dX3_addOrder_29 (fun _ => rfl) ?_
  refine r_ic (v := 1) dX3_addOrder_30 (by decide) ?_
  obtain ⟨hK, h⟩ := h
  exact r_call (th := false) dX3_addOrder_31 (fun _ => ex_calV rfl (by decide)) rfl (Nat.le_of_ble_eq_true rfl) (Nat.le_of_ble_eq_true rfl) (Nat.le_of_ble_eq_true rfl) (rcv0 rfl rfl (by decide) hK) rfl rfl rfl (fun q => nomatch q) h
theorem b35_34 {g : Nat → Nat} {C S : Nat} {σ : PS} {Q : Rs → PS → Prop} {r0 : Nat} {r1 : Nat} {x2 : Int32} {r3 : Nat}
    (h : zK σ r3 = 4 ∧ zK σ r3 = 4 ∧ zK σ r0 = 5 ∧ WP g C S 34 0 [some (.ref r0), some (.int (zI σ r3 0)), some (.int (zI σ r3 1)), some (.ref r1), none, none] [] σ (KK g C S 35 47 [some (.ref r0), some (.ref r1), some (.int x2), some (.ref r3)] [] Q false)) :
    WP g C S 35 34 [some (.ref r0), some (.ref r1), some (.int x2), some (.ref r3)] [] σ Q := by
  refine r_g (pc' := 35) (ls' := [some (.ref r0), some (.ref r1), some (.int x2), some (.ref r3)]) (st' := [.ref r0]) dX3_addOrder_34 (fun _ => rfl) ?_
  refine r_g (pc' := 36) (ls' := [some (.ref r0), some (.ref r1), some (.int x2), some (.ref r3)]) (st' := [.ref r3, .ref r0]) dX3_addOrder_35 (fun _ => rfl) ?_
  obtain ⟨hK, h⟩ := h
  refine r_getI dX3_addOrder_36 rfl (by decide) rfl hK ?_
  refine r_g (pc' := 40) (ls' := [some (.ref r0), some (.ref r1), some (.int x2), some (.ref r3)]) (st' := [.ref r3, .int (zI σ r3 0), .ref r0]) dX3_addOrder_39 (fun _ => rfl) ?_
  obtain ⟨hK, h⟩ := h
  refine r_getI dX3_addOrder_40 rfl (by decide) rfl hK ?_
  refine r_g (pc' := 44) (ls' := [some (.ref r0), some (.ref r1), some (.int x2), some (.ref r3)]) (st' := [.ref r1, .int (zI σ r3 1), .int (zI σ r3 0), .ref r0]) dX3_addOrder_43 (fun _ => rfl) ?_
  obtain ⟨hK, h⟩ := h
  exact r_call (th := false) dX3_addOrder_44 (fun _ => ex_calV rfl (by decide)) rfl (Nat.le_of_ble_eq_true rfl) (Nat.le_of_ble_eq_true rfl) (Nat.le_of_ble_eq_true rfl) (rcv0 rfl rfl (by decide) hK) rfl rfl rfl (fun q => nomatch q) h
theorem b35_47 {g : Nat → Nat} {C S : Nat} {σ : PS} {Q : Rs → PS → Prop} {r0 : Nat} {r1 : Nat} {x2 : Int32} {r3 : Nat}
    (h : zK σ r1 = 7 ∧ WP g C S 57 0 [some (.ref r1), some (.int 1), none] [] σ (KK g C S 35 52 [some (.ref r0), some (.ref r1), some (.int x2), some (.ref r3)] [] Q false)) :
    WP g C S 35 47 [some (.ref r0), some (.ref r1), some (.int x2), some (.ref r3)] [] σ Q := by
  refine r_g (pc' := 48) (ls' := [some (.ref r0), some (.ref r1), some (.int x2), some (.ref r3)]) (st' := [.ref r1]) dX3_addOrder_47 (fun _ => rfl) ?_
  refine r_ic (v := 1) dX3_addOrder_48 (by decide) ?_
  obtain ⟨hK, h⟩ := h
  exact r_call (th := false) dX3_addOrder_49 (fun _ => ex_calV rfl (by decide)) rfl (Nat.le_of_ble_eq_true rfl) (Nat.le_of_ble_eq_true rfl) (Nat.le_of_ble_eq_true rfl) (rcv0 rfl rfl (by decide) hK) rfl rfl rfl (fun q => nomatch q) h
theorem b35_52 {g : Nat → Nat} {C S : Nat} {σ : PS} {Q : Rs → PS → Prop} {r0 : Nat} {r1 : Nat} {x2 : Int32} {r3 : Nat}
    (h : zK σ r3 = 4 ∧ zK σ r3 = 4 ∧ zK σ r0 = 5 ∧ WP g C S 34 0 [some (.ref r0), some (.int (zI σ r3 2)), some (.int (zI σ r3 3)), some (.ref r1), none, none] [] σ (KK g C S 35 65 [some (.ref r0), some (.ref r1), some (.int x2), some (.ref r3)] [] Q false)) :
    WP g C S 35 52 [some (.ref r0), some (.ref r1), some (.int x2), some (.ref r3)] [] σ Q := by
  refine r_g (pc' := 53) (ls' := [some (.ref r0), some (.ref r1), some (.int x2), some (.ref r3)]) (st' := [.ref r0]) dX3_addOrder_52 (fun _ => rfl) ?_
  refine r_g (pc' := 54) (ls' := [some (.ref r0), some (.ref r1), some (.int x2), some (.ref r3)]) (st' := [.ref r3, .ref r0]) dX3_addOrder_53 (fun _ => rfl) ?_
  obtain ⟨hK, h⟩ := h
  refine r_getI dX3_addOrder_54 rfl (by decide) rfl hK ?_
  refine r_g (pc' := 58) (ls' := [some (.ref r0), some (.ref r1), some (.int x2), some (.ref r3)]) (st' := [.ref r3, .int (zI σ r3 2), .ref r0]) dX3_addOrder_57 (fun _ => rfl) ?_
  obtain ⟨hK, h⟩ := h
  refine r_getI dX3_addOrder_58 rfl (by decide) rfl hK ?_
  refine r_g (pc' := 62) (ls' := [some (.ref r0), some (.ref r1), some (.int x2), some (.ref r3)]) (st' := [.ref r1, .int (zI σ r3 3), .int (zI σ r3 2), .ref r0]) dX3_addOrder_61 (fun _ => rfl) ?_
  obtain ⟨hK, h⟩ := h
  exact r_call (th := false) dX3_addOrder_62 (fun _ => ex_calV rfl (by decide)) rfl (Nat.le_of_ble_eq_true rfl) (Nat.le_of_ble_eq_true rfl) (Nat.le_of_ble_eq_true rfl) (rcv0 rfl rfl (by decide) hK) rfl rfl rfl (fun q => nomatch q) h
theorem b35_65 {g : Nat → Nat} {C S : Nat} {σ : PS} {Q : Rs → PS → Prop} {r0 : Nat} {r1 : Nat} {x2 : Int32} {l3 : Option Value}
    (h : zK σ r1 = 7 ∧ WP g C S 57 0 [some (.ref r1), some (.int 1), none] [] σ (KK g C S 35 70 [some (.ref r0), some (.ref r1), some (.int x2), l3] [] Q false)) :
    WP g C S 35 65 [some (.ref r0), some (.ref r1), some (.int x2), l3] [] σ Q := by
  refine r_g (pc' := 66) (ls' := [some (.ref r0), some (.ref r1), some (.int x2), l3]) (st' := [.ref r1]) dX3_addOrder_65 (fun _ => rfl) ?_
  refine r_ic (v := 1) dX3_addOrder_66 (by decide) ?_
  obtain ⟨hK, h⟩ := h
  exact r_call (th := false) dX3_addOrder_67 (fun _ => ex_calV rfl (by decide)) rfl (Nat.le_of_ble_eq_true rfl) (Nat.le_of_ble_eq_true rfl) (Nat.le_of_ble_eq_true rfl) (rcv0 rfl rfl (by decide) hK) rfl rfl rfl (fun q => nomatch q) h
theorem b35_70 {g : Nat → Nat} {C S : Nat} {σ : PS} {Q : Rs → PS → Prop} {r0 : Nat} {r1 : Nat} {x2 : Int32} {l3 : Option Value}
    (h : WP g C S 35 2 [some (.ref r0), some (.ref r1), some (.int (x2 + 1)), l3] [] σ Q) :
    WP g C S 35 70 [some (.ref r0), some (.ref r1), some (.int x2), l3] [] σ Q := by
  refine r_inc (v := 1) (ls' := [some (.ref r0), some (.ref r1), some (.int (x2 + 1)), l3]) dX3_addOrder_70 rfl (Nat.le_of_ble_eq_true rfl) (by decide) rfl ?_
  refine r_goto (t := 2) dX3_addOrder_73 (by decide) ?_
  exact h
theorem b35_81 {g : Nat → Nat} {C S : Nat} {σ : PS} {Q : Rs → PS → Prop} {l0 : Option Value} {l1 : Option Value} {l2 : Option Value} {l3 : Option Value}
    (h : Q (Sum.inl none) σ) :
    WP g C S 35 81 [l0, l1, l2, l3] [] σ Q := by
  exact r_vret dX3_addOrder_81 rfl h
theorem b36_0 {g : Nat → Nat} {C S : Nat} {σ : PS} {Q : Rs → PS → Prop} {r0 : Nat} {r1 : Nat} {l2 : Option Value} {l3 : Option Value}
    (h : zK σ r0 = 5 ∧ ((zI σ r0 6 : Int32) ≤ 3 → zK σ r0 = 5 ∧ WP g C S 36 16 [some (.ref r0), some (.ref r1), l2, l3] [.int (zI σ r0 6)] σ Q) ∧ (¬ ((zI σ r0 6 : Int32) ≤ 3) → WP g C S 36 16 [some (.ref r0), some (.ref r1), l2, l3] [.int 1] σ Q)) :
    WP g C S 36 0 [some (.ref r0), some (.ref r1), l2, l3] [] σ Q := by
  refine r_g (pc' := 1) (ls' := [some (.ref r0), some (.ref r1), l2, l3]) (st' := [.ref r0]) dX3_addPiece_0 (fun _ => rfl) ?_
  obtain ⟨hK, h⟩ := h
  refine r_getI dX3_addPiece_1 rfl (by decide) rfl hK ?_
  refine r_ic (v := 3) dX3_addPiece_4 (by decide) ?_
  obtain ⟨h1, h2⟩ := h
  refine r_icmp (t := 12) dX3_addPiece_5 (by decide) c_le (fun c => ?_) (fun c => ?_)
  · have h := h1 c
    refine r_g (pc' := 13) (ls' := [some (.ref r0), some (.ref r1), l2, l3]) (st' := [.ref r0]) dX3_addPiece_12 (fun _ => rfl) ?_
    obtain ⟨hK, h⟩ := h
    refine r_getI dX3_addPiece_13 rfl (by decide) rfl hK ?_
    exact h
  · have h := h2 c
    refine r_ic (v := 1) dX3_addPiece_8 (by decide) ?_
    refine r_goto (t := 16) dX3_addPiece_9 (by decide) ?_
    exact h
theorem b36_16 {g : Nat → Nat} {C S : Nat} {σ : PS} {Q : Rs → PS → Prop} {r0 : Nat} {r1 : Nat} {l2 : Option Value} {l3 : Option Value} {u0 : Int32}
    (h : WP g C S 36 19 [some (.ref r0), some (.ref r1), some (.int u0), some (.int 0)] [] σ Q) :
    WP g C S 36 16 [some (.ref r0), some (.ref r1), l2, l3] [.int u0] σ Q := by
  refine r_g (pc' := 17) (ls' := [some (.ref r0), some (.ref r1), some (.int u0), l3]) (st' := []) dX3_addPiece_16 (fun _ => rfl) ?_
  refine r_ic (v := 0) dX3_addPiece_17 (by decide) ?_
  refine r_g (pc' := 19) (ls' := [some (.ref r0), some (.ref r1), some (.int u0), some (.int 0)]) (st' := []) dX3_addPiece_18 (fun _ => rfl) ?_
  exact h
theorem b36_19 {g : Nat → Nat} {C S : Nat} {σ : PS} {Q : Rs → PS → Prop} {r0 : Nat} {r1 : Nat} {x2 : Int32} {x3 : Int32}
    (h : ((x2 : Int32) ≤ x3 → zK σ r0 = 5 ∧ ((zI σ r0 6 : Int32) ≤ x2 → WP g C S 36 92 [some (.ref r0), some (.ref r1), some (.int x2), some (.int x3)] [] σ Q) ∧ (¬ ((zI σ r0 6 : Int32) ≤ x2) → zK σ r1 = 7 ∧ WP g C S 59 0 [some (.ref r1), some (.ref (g 102)), none] [] σ (KK g C S 36 92 [some (.ref r0), some (.ref r1), some (.int x2), some (.int x3)] [] Q false))) ∧ (¬ ((x2 : Int32) ≤ x3) → ((x3 : Int32) ≤ 0 → WP g C S 36 46 [some (.ref r0), some (.ref r1), some (.int x2), some (.int x3)] [] σ Q) ∧ (¬ ((x3 : Int32) ≤ 0) → (¬ (x3 : Int32) = (x2 - 1) → WP g C S 36 43 [some (.ref r0), some (.ref r1), some (.int x2), some (.int x3)] [.ref (g 105), .ref r1] σ Q) ∧ (¬ (¬ (x3 : Int32) = (x2 - 1)) → WP g C S 36 43 [some (.ref r0), some (.ref r1), some (.int x2), some (.int x3)] [.ref (g 101), .ref r1] σ Q)))) :
    WP g C S 36 19 [some (.ref r0), some (.ref r1), some (.int x2), some (.int x3)] [] σ Q := by
  refine r_g (pc' := 20) (ls' := [some (.ref r0), some (.ref r1), some (.int x2), some (.int x3)]) (st' := [.int x3]) dX3_addPiece_19 (fun _ => rfl) ?_
  refine r_g (pc' := 21) (ls' := [some (.ref r0), some (.ref r1), some (.int x2), some (.int x3)]) (st' := [.int x2, .int x3]) dX3_addPiece_20 (fun _ => rfl) ?_
  obtain ⟨h1, h2⟩ := h
  refine r_icmp (t := 78) dX3_addPiece_21 (by decide) c_ge (fun c => ?_) (fun c => ?_)
  · have h := h1 c
    refine r_g (pc' := 79) (ls' := [some (.ref r0), some (.ref r1), some (.int x2), some (.int x3)]) (st' := [.int x2]) dX3_addPiece_78 (fun _ => rfl) ?_
    refine r_g (pc' := 80) (ls' := [some (.ref r0), some (.ref r1), some (.int x2), some (.int x3)]) (st' := [.ref r0, .int x2]) dX3_addPiece_79 (fun _ => rfl) ?_
    obtain ⟨hK, h⟩ := h
    refine r_getI dX3_addPiece_80 rfl (by decide) rfl hK ?_
    obtain ⟨h1, h2⟩ := h
    refine r_icmp (t := 92) dX3_addPiece_83 (by decide) c_ge (fun c => ?_) (fun c => ?_)
    · have h := h1 c
      exact h
    · have h := h2 c
      refine r_g (pc' := 87) (ls' := [some (.ref r0), some (.ref r1), some (.int x2), some (.int x3)]) (st' := [.ref r1]) dX3_addPiece_86 (fun _ => rfl) ?_
      refine r_ldcS dX3_addPiece_87 rfl ?_
      obtain ⟨hK, h⟩ := h
      exact r_call (th := false) dX3_addPiece_89 (fun _ => ex_calV rfl (by decide)) rfl (Nat.le_of_ble_eq_true rfl) (Nat.le_of_ble_eq_true rfl) (Nat.le_of_ble_eq_true rfl) (rcv0 rfl rfl (by decide) hK) rfl rfl rfl (fun q => nomatch q) h
  · have h := h2 c
    refine r_g (pc' := 25) (ls' := [some (.ref r0), some (.ref r1), some (.int x2), some (.int x3)]) (st' := [.int x3]) dX3_addPiece_24 (fun _ => rfl) ?_
    obtain ⟨h1, h2⟩ := h
    refine r_if (t := 46) dX3_addPiece_25 (by decide) c_le (fun c => ?_) (fun c => ?_)
    · have h := h1 c
      exact h
    · have h := h2 c
      refine r_g (pc' := 29) (ls' := [some (.ref r0), some (.ref r1), some (.int x2), some (.int x3)]) (st' := [.ref r1]) dX3_addPiece_28 (fun _ => rfl) ?_
      refine r_g (pc' := 30) (ls' := [some (.ref r0), some (.ref r1), some (.int x2), some (.int x3)]) (st' := [.int x3, .ref r1]) dX3_addPiece_29 (fun _ => rfl) ?_
      refine r_g (pc' := 31) (ls' := [some (.ref r0), some (.ref r1), some (.int x2), some (.int x3)]) (st' := [.int x2, .int x3, .ref r1]) dX3_addPiece_30 (fun _ => rfl) ?_
      refine r_ic (v := 1) dX3_addPiece_31 (by decide) ?_
      refine r_g (pc' := 33) (ls' := [some (.ref r0), some (.ref r1), some (.int x2), some (.int x3)]) (st' := [.int (x2 - 1), .int x3, .ref r1]) dX3_addPiece_32 (fun _ => rfl) ?_
      obtain ⟨h1, h2⟩ := h
      refine r_icmp (t := 41) dX3_addPiece_33 (by decide) c_ne (fun c => ?_) (fun c => ?_)
      · have h := h1 c
        refine r_ldcS dX3_addPiece_41 rfl ?_
        exact h
      · have h := h2 c
        refine r_ldcS dX3_addPiece_36 rfl ?_
        refine r_goto (t := 43) dX3_addPiece_38 (by decide) ?_
        exact h
theorem b36_43 {g : Nat → Nat} {C S : Nat} {σ : PS} {Q : Rs → PS → Prop} {r0 : Nat} {r1 : Nat} {x2 : Int32} {x3 : Int32} {w0 : Nat} {w1 : Nat}
    (h : zK σ w1 = 7 ∧ WP g C S 59 0 [some (.ref w1), some (.ref w0), none] [] σ (KK g C S 36 46 [some (.ref r0), some (.ref r1), some (.int x2), some (.int x3)] [] Q false)) :
    WP g C S 36 43 [some (.ref r0), some (.ref r1), some (.int x2), some (.int x3)] [.ref w0, .ref w1] σ Q := by
  obtain ⟨hK, h⟩ := h
  exact r_call (th := false) dX3_addPiece_43 (fun _ => ex_calV rfl (by decide)) rfl (Nat.le_of_ble_eq_true rfl) (Nat.le_of_ble_eq_true rfl) (Nat.le_of_ble_eq_true rfl) (rcv0 rfl rfl (by decide) hK) rfl rfl rfl (fun q => nomatch q) h
theorem b36_46 {g : Nat → Nat} {C S : Nat} {σ : PS} {Q : Rs → PS → Prop} {r0 : Nat} {r1 : Nat} {x2 : Int32} {x3 : Int32}
    (h : zK σ r0 = 5 ∧ WP g C S 31 0 [some (.ref r0), some (.int x3), some (.ref r1)] [] σ (KK g C S 36 52 [some (.ref r0), some (.ref r1), some (.int x2), some (.int x3)] [] Q false)) :
    WP g C S 36 46 [some (.ref r0), some (.ref r1), some (.int x2), some (.int x3)] [] σ Q := by
  refine r_g (pc' := 47) (ls' := [some (.ref r0), some (.ref r1), some (.int x2), some (.int x3)]) (st' := [.ref r0]) dX3_addPiece_46 (fun _ => rfl) ?_
  refine r_g (pc' := 48) (ls' := [some (.ref r0), some (.ref r1), some (.int x2), some (.int x3)]) (st' := [.int x3, .ref r0]) dX3_addPiece_47 (fun _ => rfl) ?_
  refine r_g (pc' := 49) (ls' := [some (.ref r0), some (.ref r1), some (.int x2), some (.int x3)]) (st' := [.ref r1, .int x3, .ref r0]) dX3_addPiece_48 (fun _ => rfl) ?_
  obtain ⟨hK, h⟩ := h
  exact r_call (th := false) dX3_addPiece_49 (fun _ => ex_calV rfl (by decide)) rfl (Nat.le_of_ble_eq_true rfl) (Nat.le_of_ble_eq_true rfl) (Nat.le_of_ble_eq_true rfl) (rcv0 rfl rfl (by decide) hK) rfl rfl rfl (fun q => nomatch q) h
theorem b36_52 {g : Nat → Nat} {C S : Nat} {σ : PS} {Q : Rs → PS → Prop} {r0 : Nat} {r1 : Nat} {x2 : Int32} {x3 : Int32}
    (h : zK σ r0 = 5 ∧ WP g C S 30 0 [some (.ref r0), some (.int x3)] [] σ (KK g C S 36 57 [some (.ref r0), some (.ref r1), some (.int x2), some (.int x3)] [] Q false)) :
    WP g C S 36 52 [some (.ref r0), some (.ref r1), some (.int x2), some (.int x3)] [] σ Q := by
  refine r_g (pc' := 53) (ls' := [some (.ref r0), some (.ref r1), some (.int x2), some (.int x3)]) (st' := [.ref r0]) dX3_addPiece_52 (fun _ => rfl) ?_
  refine r_g (pc' := 54) (ls' := [some (.ref r0), some (.ref r1), some (.int x2), some (.int x3)]) (st' := [.int x3, .ref r0]) dX3_addPiece_53 (fun _ => rfl) ?_
  obtain ⟨hK, h⟩ := h
  exact r_call (th := false) dX3_addPiece_54 (fun _ => ex_calV rfl (by decide)) rfl (Nat.le_of_ble_eq_true rfl) (Nat.le_of_ble_eq_true rfl) (Nat.le_of_ble_eq_true rfl) (rcv0 rfl rfl (by decide) hK) rfl rfl rfl (fun q => nomatch q) h
theorem b36_57 {g : Nat → Nat} {C S : Nat} {σ : PS} {Q : Rs → PS → Prop} {r0 : Nat} {r1 : Nat} {x2 : Int32} {x3 : Int32} {u0 : Int32}
    (h : ((u0 : Int32) = 0 → WP g C S 36 72 [some (.ref r0), some (.ref r1), some (.int x2), some (.int x3)] [] σ Q) ∧ (¬ ((u0 : Int32) = 0) → zK σ r1 = 7 ∧ WP g C S 59 0 [some (.ref r1), some (.ref (g 105)), none] [] σ (KK g C S 36 66 [some (.ref r0), some (.ref r1), some (.int x2), some (.int x3)] [] Q false))) :
    WP g C S 36 57 [some (.ref r0), some (.ref r1), some (.int x2), some (.int x3)] [.int u0] σ Q := by
  obtain ⟨h1, h2⟩ := h
  refine r_if (t := 72) dX3_addPiece_57 (by decide) c_eq (fun c => ?_) (fun c => ?_)
  · have h := h1 c
    exact h
  · have h := h2 c
    refine r_g (pc' := 61) (ls' := [some (.ref r0), some (.ref r1), some (.int x2), some (.int x3)]) (st' := [.ref r1]) dX3_addPiece_60 (fun _ => rfl) ?_
    refine r_ldcS dX3_addPiece_61 rfl ?_
    obtain ⟨hK, h⟩ := h
    exact r_call (th := false) dX3_addPiece_63 (fun _ => ex_calV rfl (by decide)) rfl (Nat.le_of_ble_eq_true rfl) (Nat.le_of_ble_eq_true rfl) (Nat.le_of_ble_eq_true rfl) (rcv0 rfl rfl (by decide) hK) rfl rfl rfl (fun q => nomatch q) h
theorem b36_66 {g : Nat → Nat} {C S : Nat} {σ : PS} {Q : Rs → PS → Prop} {r0 : Nat} {r1 : Nat} {x2 : Int32} {x3 : Int32}
    (h : zK σ r0 = 5 ∧ WP g C S 33 0 [some (.ref r0), some (.int x3), some (.ref r1), none, none] [] σ (KK g C S 36 72 [some (.ref r0), some (.ref r1), some (.int x2), some (.int x3)] [] Q false)) :
    WP g C S 36 66 [some (.ref r0), some (.ref r1), some (.int x2), some (.int x3)] [] σ Q := by
  refine r_g (pc' := 67) (ls' := [some (.ref r0), some (.ref r1), some (.int x2), some (.int x3)]) (st' := [.ref r0]) dX3_addPiece_66 (fun _ => rfl) ?_
  refine r_g (pc' := 68) (ls' := [some (.ref r0), some (.ref r1), some (.int x2), some (.int x3)]) (st' := [.int x3, .ref r0]) dX3_addPiece_67 (fun _ => rfl) ?_
  refine r_g (pc' := 69) (ls' := [some (.ref r0), some (.ref r1), some (.int x2), some (.int x3)]) (st' := [.ref r1, .int x3, .ref r0]) dX3_addPiece_68 (fun _ => rfl) ?_
  obtain ⟨hK, h⟩ := h
  exact r_call (th := false) dX3_addPiece_69 (fun _ => ex_calV rfl (by decide)) rfl (Nat.le_of_ble_eq_true rfl) (Nat.le_of_ble_eq_true rfl) (Nat.le_of_ble_eq_true rfl) (rcv0 rfl rfl (by decide) hK) rfl rfl rfl (fun q => nomatch q) h
theorem b36_72 {g : Nat → Nat} {C S : Nat} {σ : PS} {Q : Rs → PS → Prop} {r0 : Nat} {r1 : Nat} {x2 : Int32} {x3 : Int32}
    (h : WP g C S 36 19 [some (.ref r0), some (.ref r1), some (.int x2), some (.int (x3 + 1))] [] σ Q) :
    WP g C S 36 72 [some (.ref r0), some (.ref r1), some (.int x2), some (.int x3)] [] σ Q := by
  refine r_inc (v := 1) (ls' := [some (.ref r0), some (.ref r1), some (.int x2), some (.int (x3 + 1))]) dX3_addPiece_72 rfl (Nat.le_of_ble_eq_true rfl) (by decide) rfl ?_
  refine r_goto (t := 19) dX3_addPiece_75 (by decide) ?_
  exact h
theorem b36_92 {g : Nat → Nat} {C S : Nat} {σ : PS} {Q : Rs → PS → Prop} {l0 : Option Value} {l1 : Option Value} {l2 : Option Value} {l3 : Option Value}
    (h : Q (Sum.inl none) σ) :
    WP g C S 36 92 [l0, l1, l2, l3] [] σ Q := by
  exact r_vret dX3_addPiece_92 rfl h
theorem b37_0 {g : Nat → Nat} {C S : Nat} {σ : PS} {Q : Rs → PS → Prop} {r0 : Nat} {r1 : Nat} {l2 : Option Value} {l3 : Option Value}
    (h : WP g C S 37 2 [some (.ref r0), some (.ref r1), some (.int 0), l3] [] σ Q) :
    WP g C S 37 0 [some (.ref r0), some (.ref r1), l2, l3] [] σ Q := by
  refine r_ic (v := 0) dX3_addFamilySigns_0 (by decide) ?_
  refine r_g (pc' := 2) (ls' := [some (.ref r0), some (.ref r1), some (.int 0), l3]) (st' := []) dX3_addFamilySigns_1 (fun _ => rfl) ?_
  exact h
theorem b37_2 {g : Nat → Nat} {C S : Nat} {σ : PS} {Q : Rs → PS → Prop} {r0 : Nat} {r1 : Nat} {x2 : Int32} {l3 : Option Value}
    (h : zK σ r0 = 5 ∧ ((zI σ r0 6 : Int32) ≤ x2 → WP g C S 37 57 [some (.ref r0), some (.ref r1), some (.int x2), l3] [] σ Q) ∧ (¬ ((zI σ r0 6 : Int32) ≤ x2) → ((4 : Int32) ≤ x2 → WP g C S 37 57 [some (.ref r0), some (.ref r1), some (.int x2), l3] [] σ Q) ∧ (¬ ((4 : Int32) ≤ x2) → zK σ r0 = 5 ∧ WP g C S 29 0 [some (.ref r0), some (.int x2)] [] σ (KK g C S 37 20 [some (.ref r0), some (.ref r1), some (.int x2), l3] [] Q false)))) :
    WP g C S 37 2 [some (.ref r0), some (.ref r1), some (.int x2), l3] [] σ Q := by
  refine r_g (pc' := 3) (ls' := [some (.ref r0), some (.ref r1), some (.int x2), l3]) (st' := [.int x2]) dX3_addFamilySigns_2 (fun _ => rfl) ?_
  refine r_g (pc' := 4) (ls' := [some (.ref r0), some (.ref r1), some (.int x2), l3]) (st' := [.ref r0, .int x2]) dX3_addFamilySigns_3 (fun _ => rfl) ?_
  obtain ⟨hK, h⟩ := h
  refine r_getI dX3_addFamilySigns_4 rfl (by decide) rfl hK ?_
  obtain ⟨h1, h2⟩ := h
  refine r_icmp (t := 57) dX3_addFamilySigns_7 (by decide) c_ge (fun c => ?_) (fun c => ?_)
  · have h := h1 c
    exact h
  · have h := h2 c
    refine r_g (pc' := 11) (ls' := [some (.ref r0), some (.ref r1), some (.int x2), l3]) (st' := [.int x2]) dX3_addFamilySigns_10 (fun _ => rfl) ?_
    refine r_ic (v := 4) dX3_addFamilySigns_11 (by decide) ?_
    obtain ⟨h1, h2⟩ := h
    refine r_icmp (t := 57) dX3_addFamilySigns_12 (by decide) c_ge (fun c => ?_) (fun c => ?_)
    · have h := h1 c
      exact h
    · have h := h2 c
      refine r_g (pc' := 16) (ls' := [some (.ref r0), some (.ref r1), some (.int x2), l3]) (st' := [.ref r0]) dX3_addFamilySigns_15 (fun _ => rfl) ?_
      refine r_g (pc' := 17) (ls' := [some (.ref r0), some (.ref r1), some (.int x2), l3]) (st' := [.int x2, .ref r0]) dX3_addFamilySigns_16 (fun _ => rfl) ?_
      obtain ⟨hK, h⟩ := h
      exact r_call (th := false) dX3_addFamilySigns_17 (fun _ => ex_calV rfl (by decide)) rfl (Nat.le_of_ble_eq_true rfl) (Nat.le_of_ble_eq_true rfl) (Nat.le_of_ble_eq_true rfl) (rcv0 rfl rfl (by decide) hK) rfl rfl rfl (fun q => nomatch q) h
theorem b37_20 {g : Nat → Nat} {C S : Nat} {σ : PS} {Q : Rs → PS → Prop} {r0 : Nat} {r1 : Nat} {x2 : Int32} {l3 : Option Value} {w0 : Nat}
    (h : zK σ w0 = 4 ∧ zK σ w0 = 4 ∧ ((zI σ w0 4 : Int32) ≤ (zI σ w0 3) → WP g C S 37 51 [some (.ref r0), some (.ref r1), some (.int x2), some (.ref w0)] [] σ Q) ∧ (¬ ((zI σ w0 4 : Int32) ≤ (zI σ w0 3)) → zK σ r0 = 5 ∧ ∃ b1, zP σ r0 0 = some b1 ∧ (zK σ w0 = 4 ∧ zK σ r0 = 5 ∧ WP g C S 28 0 [some (.ref r0), some (.int (zI σ w0 3))] [] σ (KK g C S 37 45 [some (.ref r0), some (.ref r1), some (.int x2), some (.ref w0)] [.ref b1, .ref r1] Q false)))) :
    WP g C S 37 20 [some (.ref r0), some (.ref r1), some (.int x2), l3] [.ref w0] σ Q := by
  refine r_g (pc' := 21) (ls' := [some (.ref r0), some (.ref r1), some (.int x2), some (.ref w0)]) (st' := []) dX3_addFamilySigns_20 (fun _ => rfl) ?_
  refine r_g (pc' := 22) (ls' := [some (.ref r0), some (.ref r1), some (.int x2), some (.ref w0)]) (st' := [.ref w0]) dX3_addFamilySigns_21 (fun _ => rfl) ?_
  obtain ⟨hK, h⟩ := h
  refine r_getI dX3_addFamilySigns_22 rfl (by decide) rfl hK ?_
  refine r_g (pc' := 26) (ls' := [some (.ref r0), some (.ref r1), some (.int x2), some (.ref w0)]) (st' := [.ref w0, .int (zI σ w0 3)]) dX3_addFamilySigns_25 (fun _ => rfl) ?_
  obtain ⟨hK, h⟩ := h
  refine r_getI dX3_addFamilySigns_26 rfl (by decide) rfl hK ?_
  obtain ⟨h1, h2⟩ := h
  refine r_icmp (t := 51) dX3_addFamilySigns_29 (by decide) c_ge (fun c => ?_) (fun c => ?_)
  · have h := h1 c
    exact h
  · have h := h2 c
    refine r_g (pc' := 33) (ls' := [some (.ref r0), some (.ref r1), some (.int x2), some (.ref w0)]) (st' := [.ref r1]) dX3_addFamilySigns_32 (fun _ => rfl) ?_
    refine r_g (pc' := 34) (ls' := [some (.ref r0), some (.ref r1), some (.int x2), some (.ref w0)]) (st' := [.ref r0, .ref r1]) dX3_addFamilySigns_33 (fun _ => rfl) ?_
    obtain ⟨hK, b1, hP, h⟩ := h
    refine r_getP dX3_addFamilySigns_34 rfl (by decide) rfl hK hP ?_
    refine r_g (pc' := 38) (ls' := [some (.ref r0), some (.ref r1), some (.int x2), some (.ref w0)]) (st' := [.ref r0, .ref b1, .ref r1]) dX3_addFamilySigns_37 (fun _ => rfl) ?_
    refine r_g (pc' := 39) (ls' := [some (.ref r0), some (.ref r1), some (.int x2), some (.ref w0)]) (st' := [.ref w0, .ref r0, .ref b1, .ref r1]) dX3_addFamilySigns_38 (fun _ => rfl) ?_
    obtain ⟨hK, h⟩ := h
    refine r_getI dX3_addFamilySigns_39 rfl (by decide) rfl hK ?_
    obtain ⟨hK, h⟩ := h
    exact r_call (th := false) dX3_addFamilySigns_42 (fun _ => ex_calV rfl (by decide)) rfl (Nat.le_of_ble_eq_true rfl) (Nat.le_of_ble_eq_true rfl) (Nat.le_of_ble_eq_true rfl) (rcv0 rfl rfl (by decide) hK) rfl rfl rfl (fun q => nomatch q) h
theorem b37_45 {g : Nat → Nat} {C S : Nat} {σ : PS} {Q : Rs → PS → Prop} {r0 : Nat} {r1 : Nat} {x2 : Int32} {l3 : Option Value} {u0 : Int32} {w1 : Nat} {w2 : Nat}
    (h : zK σ w1 = 7 ∧ WP g C S 56 0 [some (.ref w1), some (.int u0)] [] σ (KK g C S 37 48 [some (.ref r0), some (.ref r1), some (.int x2), l3] [.ref w2] Q false)) :
    WP g C S 37 45 [some (.ref r0), some (.ref r1), some (.int x2), l3] [.int u0, .ref w1, .ref w2] σ Q := by
  obtain ⟨hK, h⟩ := h
  exact r_call (th := false) dX3_addFamilySigns_45 (fun _ => ex_calV rfl (by decide)) rfl (Nat.le_of_ble_eq_true rfl) (Nat.le_of_ble_eq_true rfl) (Nat.le_of_ble_eq_true rfl) (rcv0 rfl rfl (by decide) hK) rfl rfl rfl (fun q => nomatch q) h
theorem b37_48 {g : Nat → Nat} {C S : Nat} {σ : PS} {Q : Rs → PS → Prop} {r0 : Nat} {r1 : Nat} {x2 : Int32} {l3 : Option Value} {u0 : Int32} {w1 : Nat}
    (h : zK σ w1 = 7 ∧ WP g C S 57 0 [some (.ref w1), some (.int u0), none] [] σ (KK g C S 37 51 [some (.ref r0), some (.ref r1), some (.int x2), l3] [] Q false)) :
    WP g C S 37 48 [some (.ref r0), some (.ref r1), some (.int x2), l3] [.int u0, .ref w1] σ Q := by
  obtain ⟨hK, h⟩ := h
  exact r_call (th := false) dX3_addFamilySigns_48 (fun _ => ex_calV rfl (by decide)) rfl (Nat.le_of_ble_eq_true rfl) (Nat.le_of_ble_eq_true rfl) (Nat.le_of_ble_eq_true rfl) (rcv0 rfl rfl (by decide) hK) rfl rfl rfl (fun q => nomatch q) h
theorem b37_51 {g : Nat → Nat} {C S : Nat} {σ : PS} {Q : Rs → PS → Prop} {r0 : Nat} {r1 : Nat} {x2 : Int32} {l3 : Option Value}
    (h : WP g C S 37 2 [some (.ref r0), some (.ref r1), some (.int (x2 + 1)), l3] [] σ Q) :
    WP g C S 37 51 [some (.ref r0), some (.ref r1), some (.int x2), l3] [] σ Q := by
  refine r_inc (v := 1) (ls' := [some (.ref r0), some (.ref r1), some (.int (x2 + 1)), l3]) dX3_addFamilySigns_51 rfl (Nat.le_of_ble_eq_true rfl) (by decide) rfl ?_
  refine r_goto (t := 2) dX3_addFamilySigns_54 (by decide) ?_
  exact h
theorem b37_57 {g : Nat → Nat} {C S : Nat} {σ : PS} {Q : Rs → PS → Prop} {r0 : Nat} {r1 : Nat} {l2 : Option Value} {l3 : Option Value}
    (h : zK σ r0 = 5 ∧ ((zI σ r0 6 : Int32) ≤ 4 → WP g C S 37 71 [some (.ref r0), some (.ref r1), l2, l3] [] σ Q) ∧ (¬ ((zI σ r0 6 : Int32) ≤ 4) → zK σ r1 = 7 ∧ WP g C S 57 0 [some (.ref r1), some (.int 43), none] [] σ (KK g C S 37 71 [some (.ref r0), some (.ref r1), l2, l3] [] Q false))) :
    WP g C S 37 57 [some (.ref r0), some (.ref r1), l2, l3] [] σ Q := by
  refine r_g (pc' := 58) (ls' := [some (.ref r0), some (.ref r1), l2, l3]) (st' := [.ref r0]) dX3_addFamilySigns_57 (fun _ => rfl) ?_
  obtain ⟨hK, h⟩ := h
  refine r_getI dX3_addFamilySigns_58 rfl (by decide) rfl hK ?_
  refine r_ic (v := 4) dX3_addFamilySigns_61 (by decide) ?_
  obtain ⟨h1, h2⟩ := h
  refine r_icmp (t := 71) dX3_addFamilySigns_62 (by decide) c_le (fun c => ?_) (fun c => ?_)
  · have h := h1 c
    exact h
  · have h := h2 c
    refine r_g (pc' := 66) (ls' := [some (.ref r0), some (.ref r1), l2, l3]) (st' := [.ref r1]) dX3_addFamilySigns_65 (fun _ => rfl) ?_
    refine r_bi (v := 43) dX3_addFamilySigns_66 (by decide) ?_
    obtain ⟨hK, h⟩ := h
    exact r_call (th := false) dX3_addFamilySigns_68 (fun _ => ex_calV rfl (by decide)) rfl (Nat.le_of_ble_eq_true rfl) (Nat.le_of_ble_eq_true rfl) (Nat.le_of_ble_eq_true rfl) (rcv0 rfl rfl (by decide) hK) rfl rfl rfl (fun q => nomatch q) h
theorem b37_71 {g : Nat → Nat} {C S : Nat} {σ : PS} {Q : Rs → PS → Prop} {l0 : Option Value} {l1 : Option Value} {l2 : Option Value} {l3 : Option Value}
    (h : Q (Sum.inl none) σ) :
    WP g C S 37 71 [l0, l1, l2, l3] [] σ Q := by
  exact r_vret dX3_addFamilySigns_71 rfl h
