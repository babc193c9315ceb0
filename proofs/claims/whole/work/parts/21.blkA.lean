theorem b52_0 {g : Nat → Nat} {C S : Nat} {σ : PS} {Q : Rs → PS → Prop} {r0 : Nat}
    (h : ∃ n1 : Nat, 8 = nI n1 ∧ n1 ≤ 100000 ∧ zN σ + 1 ≤ C ∧ zS σ + n1 ≤ S ∧ (∀ τ2, τ2 = alA σ 102 n1 → zK τ2 r0 = 7 ∧ (∀ τ3, τ3 = stP τ2 r0 0 (some (zN σ)) → zK τ3 r0 = 7 ∧ (∀ τ4, τ4 = stI τ3 r0 1 0 → Q (Sum.inl none) τ4)))) :
    WP g C S 52 0 [some (.ref r0)] [] σ Q := by
  refine r_g (pc' := 1) (ls' := [some (.ref r0)]) (st' := [.ref r0]) dX5_init_0 (fun _ => rfl) ?_
  refine r_oi dX5_init_1 rfl ⟨Nat.le_of_ble_eq_true rfl, Nat.le_of_ble_eq_true rfl, Nat.le_of_ble_eq_true rfl⟩ ?_
  refine r_g (pc' := 5) (ls' := [some (.ref r0)]) (st' := [.ref r0]) dX5_init_4 (fun _ => rfl) ?_
  refine r_bi (v := 8) dX5_init_5 (by decide) ?_
  obtain ⟨n1, hj, hn, hC, hS, h⟩ := h
  refine r_newC dX5_init_7 hj hn hC hS ?_
  generalize eτ2 : alA σ 102 n1 = τ2
  replace h := h _ eτ2.symm
  obtain ⟨hK, h⟩ := h
  refine r_putP dX5_init_9 rfl (by decide) (Or.inl rfl) rfl hK ?_
  generalize eτ3 : stP τ2 r0 0 (some (zN σ)) = τ3
  replace h := h _ eτ3.symm
  refine r_g (pc' := 13) (ls' := [some (.ref r0)]) (st' := [.ref r0]) dX5_init_12 (fun _ => rfl) ?_
  refine r_ic (v := 0) dX5_init_13 (by decide) ?_
  obtain ⟨hK, h⟩ := h
  refine r_putI dX5_init_14 rfl (by decide) (Or.inl rfl) rfl (Or.inl rfl) hK ?_
  generalize eτ4 : stI τ3 r0 1 0 = τ4
  replace h := h _ eτ4.symm
  exact r_vret dX5_init_17 rfl h
theorem b53_0 {g : Nat → Nat} {C S : Nat} {σ : PS} {Q : Rs → PS → Prop} {r0 : Nat}
    (h : zK σ r0 = 7 ∧ (∀ τ1, τ1 = stI σ r0 1 0 → Q (Sum.inl none) τ1)) :
    WP g C S 53 0 [some (.ref r0)] [] σ Q := by
  refine r_g (pc' := 1) (ls' := [some (.ref r0)]) (st' := [.ref r0]) dX5_clear_0 (fun _ => rfl) ?_
  refine r_ic (v := 0) dX5_clear_1 (by decide) ?_
  obtain ⟨hK, h⟩ := h
  refine r_putI dX5_clear_2 rfl (by decide) (Or.inl rfl) rfl (Or.inl rfl) hK ?_
  generalize eτ1 : stI σ r0 1 0 = τ1
  replace h := h _ eτ1.symm
  exact r_vret dX5_clear_5 rfl h
theorem b54_0 {g : Nat → Nat} {C S : Nat} {σ : PS} {Q : Rs → PS → Prop} {r0 : Nat}
    (h : zK σ r0 = 7 ∧ Q (Sum.inl (some (.int (zI σ r0 1)))) σ) :
    WP g C S 54 0 [some (.ref r0)] [] σ Q := by
  refine r_g (pc' := 1) (ls' := [some (.ref r0)]) (st' := [.ref r0]) dX5_size_0 (fun _ => rfl) ?_
  obtain ⟨hK, h⟩ := h
  refine r_getI dX5_size_1 rfl (by decide) rfl hK ?_
  exact r_ret dX5_size_4 rfl h
theorem b55_0 {g : Nat → Nat} {C S : Nat} {σ : PS} {Q : Rs → PS → Prop} {r0 : Nat}
    (h : zK σ r0 = 7 ∧ (¬ (zI σ r0 1 : Int32) = 0 → WP g C S 55 12 [some (.ref r0)] [.int 0] σ Q) ∧ (¬ (¬ (zI σ r0 1 : Int32) = 0) → WP g C S 55 12 [some (.ref r0)] [.int 1] σ Q)) :
    WP g C S 55 0 [some (.ref r0)] [] σ Q := by
  refine r_g (pc' := 1) (ls' := [some (.ref r0)]) (st' := [.ref r0]) dX5_isEmpty_0 (fun _ => rfl) ?_
  obtain ⟨hK, h⟩ := h
  refine r_getI dX5_isEmpty_1 rfl (by decide) rfl hK ?_
  obtain ⟨h1, h2⟩ := h
  refine r_if (t := 11) dX5_isEmpty_4 (by decide) c_ne (fun c => ?_) (fun c => ?_)
  · have h := h1 c
    refine r_ic (v := 0) dX5_isEmpty_11 (by decide) ?_
    exact h
  · have h := h2 c
    refine r_ic (v := 1) dX5_isEmpty_7 (by decide) ?_
    refine r_goto (t := 12) dX5_isEmpty_8 (by decide) ?_
    exact h
theorem b55_12 {g : Nat → Nat} {C S : Nat} {σ : PS} {Q : Rs → PS → Prop} {l0 : Option Value} {u0 : Int32}
    (h : ((u0 : Int32) = 0 ∨ u0 = 1) ∧ Q (Sum.inl (some (.int u0))) σ) :
    WP g C S 55 12 [l0] [.int u0] σ Q := by
  obtain ⟨hn, h⟩ := h
  exact r_ret dX5_isEmpty_12 (by rcases hn with q | q <;> rw [q] <;> rfl) h
theorem b56_0 {g : Nat → Nat} {C S : Nat} {σ : PS} {Q : Rs → PS → Prop} {r0 : Nat} {x1 : Int32}
    (h : ((x1 : Int32) < 0 → WP g C S 56 21 [some (.ref r0), some (.int x1)] [] σ Q) ∧ (¬ ((x1 : Int32) < 0) → zK σ r0 = 7 ∧ ((zI σ r0 1 : Int32) ≤ x1 → WP g C S 56 21 [some (.ref r0), some (.int x1)] [] σ Q) ∧ (¬ ((zI σ r0 1 : Int32) ≤ x1) → zK σ r0 = 7 ∧ ∃ b1, zP σ r0 0 = some b1 ∧ (∃ n2 : Nat, x1 = nI n2 ∧ n2 < 2147483648 ∧ zK σ b1 = 102 ∧ n2 < zL σ b1 ∧ (WP g C S 56 22 [some (.ref r0), some (.int x1)] [.int (zI σ b1 n2)] σ Q))))) :
    WP g C S 56 0 [some (.ref r0), some (.int x1)] [] σ Q := by
  refine r_g (pc' := 1) (ls' := [some (.ref r0), some (.int x1)]) (st' := [.int x1]) dX5_signAt_0 (fun _ => rfl) ?_
  obtain ⟨h1, h2⟩ := h
  refine r_if (t := 21) dX5_signAt_1 (by decide) c_lt (fun c => ?_) (fun c => ?_)
  · have h := h1 c
    exact h
  · have h := h2 c
    refine r_g (pc' := 5) (ls' := [some (.ref r0), some (.int x1)]) (st' := [.int x1]) dX5_signAt_4 (fun _ => rfl) ?_
    refine r_g (pc' := 6) (ls' := [some (.ref r0), some (.int x1)]) (st' := [.ref r0, .int x1]) dX5_signAt_5 (fun _ => rfl) ?_
    obtain ⟨hK, h⟩ := h
    refine r_getI dX5_signAt_6 rfl (by decide) rfl hK ?_
    obtain ⟨h1, h2⟩ := h
    refine r_icmp (t := 21) dX5_signAt_9 (by decide) c_ge (fun c => ?_) (fun c => ?_)
    · have h := h1 c
      exact h
    · have h := h2 c
      refine r_g (pc' := 13) (ls' := [some (.ref r0), some (.int x1)]) (st' := [.ref r0]) dX5_signAt_12 (fun _ => rfl) ?_
      obtain ⟨hK, b1, hP, h⟩ := h
      refine r_getP dX5_signAt_13 rfl (by decide) rfl hK hP ?_
      refine r_g (pc' := 17) (ls' := [some (.ref r0), some (.int x1)]) (st' := [.int x1, .ref b1]) dX5_signAt_16 (fun _ => rfl) ?_
      obtain ⟨n2, hj, hn, hK, hL, h⟩ := h
      refine r_cald dX5_signAt_17 hj hn hK hL ?_
      refine r_goto (t := 22) dX5_signAt_18 (by decide) ?_
      exact h
theorem b56_21 {g : Nat → Nat} {C S : Nat} {σ : PS} {Q : Rs → PS → Prop} {l0 : Option Value} {l1 : Option Value}
    (h : WP g C S 56 22 [l0, l1] [.int 0] σ Q) :
    WP g C S 56 21 [l0, l1] [] σ Q := by
  refine r_ic (v := 0) dX5_signAt_21 (by decide) ?_
  exact h
theorem b56_22 {g : Nat → Nat} {C S : Nat} {σ : PS} {Q : Rs → PS → Prop} {l0 : Option Value} {l1 : Option Value} {u0 : Int32}
    (h : Q (Sum.inl (some (.int u0))) σ) :
    WP g C S 56 22 [l0, l1] [.int u0] σ Q := by
  exact r_ret dX5_signAt_22 rfl h
theorem b57_0 {g : Nat → Nat} {C S : Nat} {σ : PS} {Q : Rs → PS → Prop} {r0 : Nat} {x1 : Int32} {l2 : Option Value}
    (h : zK σ r0 = 7 ∧ zK σ r0 = 7 ∧ ∃ b1, zP σ r0 0 = some b1 ∧ (((101 ≤ zK σ b1 ∧ zK σ b1 ≤ 104) ∨ zK σ b1 = 1001 ∨ zK σ b1 = 1003) ∧ ((zI σ r0 1 : Int32) < (nI (zL σ b1)) → WP g C S 57 41 [some (.ref r0), some (.int x1), l2] [] σ Q) ∧ (¬ ((zI σ r0 1 : Int32) < (nI (zL σ b1))) → zK σ r0 = 7 ∧ ∃ b2, zP σ r0 0 = some b2 ∧ (((101 ≤ zK σ b2 ∧ zK σ b2 ≤ 104) ∨ zK σ b2 = 1001 ∨ zK σ b2 = 1003) ∧ ∃ n3 : Nat, 2 * (nI (zL σ b2)) = nI n3 ∧ n3 ≤ 100000 ∧ zN σ + 1 ≤ C ∧ zS σ + n3 ≤ S ∧ (∀ τ4, τ4 = alA σ 102 n3 → zK τ4 r0 = 7 ∧ ∃ b5, zP τ4 r0 0 = some b5 ∧ (zK τ4 r0 = 7 ∧ ∃ n6 n7 n8 : Nat, zI τ4 r0 1 = nI n6 ∧ 0 = nI n7 ∧ 0 = nI n8 ∧ n8 + n6 ≤ zL τ4 b5 ∧ n7 + n6 ≤ zL τ4 (zN σ) ∧ (zL τ4 b5 < 2147483648 ∧ zL τ4 (zN σ) < 2147483648) ∧ (¬ b5 = zN σ) ∧ zK τ4 b5 = 102 ∧ zK τ4 (zN σ) = 102 ∧ (∀ i, i < n6 → narrow .char (.int (zI τ4 b5 (n8 + i))) = .int (zI τ4 b5 (n8 + i))) ∧ (∀ τ9, τ9 = cpI τ4 b5 n8 (zN σ) n7 n6 → zK τ9 r0 = 7 ∧ (∀ τ10, τ10 = stP τ9 r0 0 (some (zN σ)) → WP g C S 57 41 [some (.ref r0), some (.int x1), some (.ref (zN σ))] [] τ10 Q)))))))) :
    WP g C S 57 0 [some (.ref r0), some (.int x1), l2] [] σ Q := by
  refine r_g (pc' := 1) (ls' := [some (.ref r0), some (.int x1), l2]) (st' := [.ref r0]) dX5_addSign_0 (fun _ => rfl) ?_
  obtain ⟨hK, h⟩ := h
  refine r_getI dX5_addSign_1 rfl (by decide) rfl hK ?_
  refine r_g (pc' := 5) (ls' := [some (.ref r0), some (.int x1), l2]) (st' := [.ref r0, .int (zI σ r0 1)]) dX5_addSign_4 (fun _ => rfl) ?_
  obtain ⟨hK, b1, hP, h⟩ := h
  refine r_getP dX5_addSign_5 rfl (by decide) rfl hK hP ?_
  obtain ⟨hK, h⟩ := h
  refine r_alen dX5_addSign_8 hK ?_
  obtain ⟨h1, h2⟩ := h
  refine r_icmp (t := 41) dX5_addSign_9 (by decide) c_lt (fun c => ?_) (fun c => ?_)
  · have h := h1 c
    exact h
  · have h := h2 c
    refine r_ic (v := 2) dX5_addSign_12 (by decide) ?_
    refine r_g (pc' := 14) (ls' := [some (.ref r0), some (.int x1), l2]) (st' := [.ref r0, .int 2]) dX5_addSign_13 (fun _ => rfl) ?_
    obtain ⟨hK, b2, hP, h⟩ := h
    refine r_getP dX5_addSign_14 rfl (by decide) rfl hK hP ?_
    obtain ⟨hK, h⟩ := h
    refine r_alen dX5_addSign_17 hK ?_
    refine r_g (pc' := 19) (ls' := [some (.ref r0), some (.int x1), l2]) (st' := [.int (2 * (nI (zL σ b2)))]) dX5_addSign_18 (fun _ => rfl) ?_
    obtain ⟨n3, hj, hn, hC, hS, h⟩ := h
    refine r_newC dX5_addSign_19 hj hn hC hS ?_
    generalize eτ4 : alA σ 102 n3 = τ4
    replace h := h _ eτ4.symm
    refine r_g (pc' := 22) (ls' := [some (.ref r0), some (.int x1), some (.ref (zN σ))]) (st' := []) dX5_addSign_21 (fun _ => rfl) ?_
    refine r_g (pc' := 23) (ls' := [some (.ref r0), some (.int x1), some (.ref (zN σ))]) (st' := [.ref r0]) dX5_addSign_22 (fun _ => rfl) ?_
    obtain ⟨hK, b5, hP, h⟩ := h
    refine r_getP dX5_addSign_23 rfl (by decide) rfl hK hP ?_
    refine r_ic (v := 0) dX5_addSign_26 (by decide) ?_
    refine r_g (pc' := 28) (ls' := [some (.ref r0), some (.int x1), some (.ref (zN σ))]) (st' := [.ref (zN σ), .int 0, .ref b5]) dX5_addSign_27 (fun _ => rfl) ?_
    refine r_ic (v := 0) dX5_addSign_28 (by decide) ?_
    refine r_g (pc' := 30) (ls' := [some (.ref r0), some (.int x1), some (.ref (zN σ))]) (st' := [.ref r0, .int 0, .ref (zN σ), .int 0, .ref b5]) dX5_addSign_29 (fun _ => rfl) ?_
    obtain ⟨hK, h⟩ := h
    refine r_getI dX5_addSign_30 rfl (by decide) rfl hK ?_
    obtain ⟨n6, n7, n8, e1, e2, e3, e4, e5, e6, e7, ka, kb, hn, h⟩ := h
    refine r_copI dX5_addSign_33 rfl ⟨Nat.le_of_ble_eq_true rfl, Nat.le_of_ble_eq_true rfl, Nat.le_of_ble_eq_true rfl⟩ e1 e2 e3 e4 e5 e6 e7 ka kb hn ?_
    generalize eτ9 : cpI τ4 b5 n8 (zN σ) n7 n6 = τ9
    replace h := h _ eτ9.symm
    refine r_g (pc' := 37) (ls' := [some (.ref r0), some (.int x1), some (.ref (zN σ))]) (st' := [.ref r0]) dX5_addSign_36 (fun _ => rfl) ?_
    refine r_g (pc' := 38) (ls' := [some (.ref r0), some (.int x1), some (.ref (zN σ))]) (st' := [.ref (zN σ), .ref r0]) dX5_addSign_37 (fun _ => rfl) ?_
    obtain ⟨hK, h⟩ := h
    refine r_putP dX5_addSign_38 rfl (by decide) (Or.inl rfl) rfl hK ?_
    generalize eτ10 : stP τ9 r0 0 (some (zN σ)) = τ10
    replace h := h _ eτ10.symm
    exact h
theorem b57_41 {g : Nat → Nat} {C S : Nat} {σ : PS} {Q : Rs → PS → Prop} {r0 : Nat} {x1 : Int32} {l2 : Option Value}
    (h : zK σ r0 = 7 ∧ ∃ b1, zP σ r0 0 = some b1 ∧ (zK σ r0 = 7 ∧ ∃ n2 : Nat, zI σ r0 1 = nI n2 ∧ n2 < 2147483648 ∧ zK σ b1 = 102 ∧ n2 < zL σ b1 ∧ (∀ τ3, τ3 = stI σ b1 n2 (vp_nar .char ((x1.toUInt32 % 65536).toInt32)) → zK τ3 r0 = 7 ∧ zK τ3 r0 = 7 ∧ (∀ τ4, τ4 = stI τ3 r0 1 ((zI τ3 r0 1) + 1) → Q (Sum.inl none) τ4)))) :
    WP g C S 57 41 [some (.ref r0), some (.int x1), l2] [] σ Q := by
  refine r_g (pc' := 42) (ls' := [some (.ref r0), some (.int x1), l2]) (st' := [.ref r0]) dX5_addSign_41 (fun _ => rfl) ?_
  obtain ⟨hK, b1, hP, h⟩ := h
  refine r_getP dX5_addSign_42 rfl (by decide) rfl hK hP ?_
  refine r_g (pc' := 46) (ls' := [some (.ref r0), some (.int x1), l2]) (st' := [.ref r0, .ref b1]) dX5_addSign_45 (fun _ => rfl) ?_
  obtain ⟨hK, h⟩ := h
  refine r_getI dX5_addSign_46 rfl (by decide) rfl hK ?_
  refine r_g (pc' := 50) (ls' := [some (.ref r0), some (.int x1), l2]) (st' := [.int x1, .int (zI σ r0 1), .ref b1]) dX5_addSign_49 (fun _ => rfl) ?_
  refine r_g (pc' := 51) (ls' := [some (.ref r0), some (.int x1), l2]) (st' := [.int ((x1.toUInt32 % 65536).toInt32), .int (zI σ r0 1), .ref b1]) dX5_addSign_50 (fun _ => rfl) ?_
  obtain ⟨n2, hj, hn, hK, hL, h⟩ := h
  refine r_cast dX5_addSign_51 hj hn hK hL ?_
  generalize eτ3 : stI σ b1 n2 (vp_nar .char ((x1.toUInt32 % 65536).toInt32)) = τ3
  replace h := h _ eτ3.symm
  refine r_g (pc' := 53) (ls' := [some (.ref r0), some (.int x1), l2]) (st' := [.ref r0]) dX5_addSign_52 (fun _ => rfl) ?_
  refine r_g (pc' := 54) (ls' := [some (.ref r0), some (.int x1), l2]) (st' := [.ref r0, .ref r0]) dX5_addSign_53 (fun _ => rfl) ?_
  obtain ⟨hK, h⟩ := h
  refine r_getI dX5_addSign_54 rfl (by decide) rfl hK ?_
  refine r_ic (v := 1) dX5_addSign_57 (by decide) ?_
  refine r_g (pc' := 59) (ls' := [some (.ref r0), some (.int x1), l2]) (st' := [.int ((zI τ3 r0 1) + 1), .ref r0]) dX5_addSign_58 (fun _ => rfl) ?_
  obtain ⟨hK, h⟩ := h
  refine r_putI dX5_addSign_59 rfl (by decide) (Or.inl rfl) rfl (Or.inl rfl) hK ?_
  generalize eτ4 : stI τ3 r0 1 ((zI τ3 r0 1) + 1) = τ4
  replace h := h _ eτ4.symm
  exact r_vret dX5_addSign_62 rfl h
theorem b58_0 {g : Nat → Nat} {C S : Nat} {σ : PS} {Q : Rs → PS → Prop} {r0 : Nat} {x1 : Int32}
    (h : ((x1 : Int32) < 0 → WP g C S 58 17 [some (.ref r0), some (.int x1)] [] σ Q) ∧ (¬ ((x1 : Int32) < 0) → zK σ r0 = 7 ∧ ((zI σ r0 1 : Int32) ≤ x1 → WP g C S 58 17 [some (.ref r0), some (.int x1)] [] σ Q) ∧ (¬ ((zI σ r0 1 : Int32) ≤ x1) → zK σ r0 = 7 ∧ (∀ τ1, τ1 = stI σ r0 1 x1 → WP g C S 58 17 [some (.ref r0), some (.int x1)] [] τ1 Q)))) :
    WP g C S 58 0 [some (.ref r0), some (.int x1)] [] σ Q := by
  refine r_g (pc' := 1) (ls' := [some (.ref r0), some (.int x1)]) (st' := [.int x1]) dX5_cut_0 (fun _ => rfl) ?_
  obtain ⟨h1, h2⟩ := h
  refine r_if (t := 17) dX5_cut_1 (by decide) c_lt (fun c => ?_) (fun c => ?_)
  · have h := h1 c
    exact h
  · have h := h2 c
    refine r_g (pc' := 5) (ls' := [some (.ref r0), some (.int x1)]) (st' := [.int x1]) dX5_cut_4 (fun _ => rfl) ?_
    refine r_g (pc' := 6) (ls' := [some (.ref r0), some (.int x1)]) (st' := [.ref r0, .int x1]) dX5_cut_5 (fun _ => rfl) ?_
    obtain ⟨hK, h⟩ := h
    refine r_getI dX5_cut_6 rfl (by decide) rfl hK ?_
    obtain ⟨h1, h2⟩ := h
    refine r_icmp (t := 17) dX5_cut_9 (by decide) c_ge (fun c => ?_) (fun c => ?_)
    · have h := h1 c
      exact h
    · have h := h2 c
      refine r_g (pc' := 13) (ls' := [some (.ref r0), some (.int x1)]) (st' := [.ref r0]) dX5_cut_12 (fun _ => rfl) ?_
      refine r_g (pc' := 14) (ls' := [some (.ref r0), some (.int x1)]) (st' := [.int x1, .ref r0]) dX5_cut_13 (fun _ => rfl) ?_
      obtain ⟨hK, h⟩ := h
      refine r_putI dX5_cut_14 rfl (by decide) (Or.inl rfl) rfl (Or.inl rfl) hK ?_
      generalize eτ1 : stI σ r0 1 x1 = τ1
      replace h := h _ eτ1.symm
      exact h
theorem b58_17 {g : Nat → Nat} {C S : Nat} {σ : PS} {Q : Rs → PS → Prop} {l0 : Option Value} {l1 : Option Value}
    (h : Q (Sum.inl none) σ) :
    WP g C S 58 17 [l0, l1] [] σ Q := by
  exact r_vret dX5_cut_17 rfl h
theorem b59_0 {g : Nat → Nat} {C S : Nat} {σ : PS} {Q : Rs → PS → Prop} {r0 : Nat} {r1 : Nat} {l2 : Option Value}
    (h : WP g C S 59 2 [some (.ref r0), some (.ref r1), some (.int 0)] [] σ Q) :
    WP g C S 59 0 [some (.ref r0), some (.ref r1), l2] [] σ Q := by
  refine r_ic (v := 0) dX5_addString_0 (by decide) ?_
  refine r_g (pc' := 2) (ls' := [some (.ref r0), some (.ref r1), some (.int 0)]) (st' := []) dX5_addString_1 (fun _ => rfl) ?_
  exact h
theorem b59_2 {g : Nat → Nat} {C S : Nat} {σ : PS} {Q : Rs → PS → Prop} {r0 : Nat} {r1 : Nat} {x2 : Int32}
    (h : zK σ r1 = 1000 ∧ WP g C S 150 0 [some (.ref r1)] [] σ (KK g C S 59 7 [some (.ref r0), some (.ref r1), some (.int x2)] [.int x2] Q false)) :
    WP g C S 59 2 [some (.ref r0), some (.ref r1), some (.int x2)] [] σ Q := by
  refine r_g (pc' := 3) (ls' := [some (.ref r0), some (.ref r1), some (.int x2)]) (st' := [.int x2]) dX5_addString_2 (fun _ => rfl) ?_
  refine r_g (pc' := 4) (ls' := [some (.ref r0), some (.ref r1), some (.int x2)]) (st' := [.ref r1, .int x2]) dX5_addString_3 (fun _ => rfl) ?_
  obtain ⟨hK, h⟩ := h
  exact r_call (th := false) dX5_addString_4 (fun _ => ex_calV rfl (by decide)) rfl (Nat.le_of_ble_eq_true rfl) (Nat.le_of_ble_eq_true rfl) (Nat.le_of_ble_eq_true rfl) (rcv0S rfl rfl rfl hK) rfl rfl rfl (fun q => nomatch q) h
theorem b59_7 {g : Nat → Nat} {C S : Nat} {σ : PS} {Q : Rs → PS → Prop} {r0 : Nat} {r1 : Nat} {x2 : Int32} {u0 : Int32} {u1 : Int32}
    (h : ((u0 : Int32) ≤ u1 → Q (Sum.inl none) σ) ∧ (¬ ((u0 : Int32) ≤ u1) → zK σ r1 = 1000 ∧ WP g C S 151 0 [some (.ref r1), some (.int x2)] [] σ (KK g C S 59 16 [some (.ref r0), some (.ref r1), some (.int x2)] [.ref r0] Q false))) :
    WP g C S 59 7 [some (.ref r0), some (.ref r1), some (.int x2)] [.int u0, .int u1] σ Q := by
  obtain ⟨h1, h2⟩ := h
  refine r_icmp (t := 25) dX5_addString_7 (by decide) c_ge (fun c => ?_) (fun c => ?_)
  · have h := h1 c
    exact r_vret dX5_addString_25 rfl h
  · have h := h2 c
    refine r_g (pc' := 11) (ls' := [some (.ref r0), some (.ref r1), some (.int x2)]) (st' := [.ref r0]) dX5_addString_10 (fun _ => rfl) ?_
    refine r_g (pc' := 12) (ls' := [some (.ref r0), some (.ref r1), some (.int x2)]) (st' := [.ref r1, .ref r0]) dX5_addString_11 (fun _ => rfl) ?_
    refine r_g (pc' := 13) (ls' := [some (.ref r0), some (.ref r1), some (.int x2)]) (st' := [.int x2, .ref r1, .ref r0]) dX5_addString_12 (fun _ => rfl) ?_
    obtain ⟨hK, h⟩ := h
    exact r_call (th := false) dX5_addString_13 (fun _ => ex_calV rfl (by decide)) rfl (Nat.le_of_ble_eq_true rfl) (Nat.le_of_ble_eq_true rfl) (Nat.le_of_ble_eq_true rfl) (rcv0S rfl rfl rfl hK) rfl rfl rfl (fun q => nomatch q) h
theorem b59_16 {g : Nat → Nat} {C S : Nat} {σ : PS} {Q : Rs → PS → Prop} {r0 : Nat} {r1 : Nat} {x2 : Int32} {u0 : Int32} {w1 : Nat}
    (h : zK σ w1 = 7 ∧ WP g C S 57 0 [some (.ref w1), some (.int u0), none] [] σ (KK g C S 59 19 [some (.ref r0), some (.ref r1), some (.int x2)] [] Q false)) :
    WP g C S 59 16 [some (.ref r0), some (.ref r1), some (.int x2)] [.int u0, .ref w1] σ Q := by
  obtain ⟨hK, h⟩ := h
  exact r_call (th := false) dX5_addString_16 (fun _ => ex_calV rfl (by decide)) rfl (Nat.le_of_ble_eq_true rfl) (Nat.le_of_ble_eq_true rfl) (Nat.le_of_ble_eq_true rfl) (rcv0 rfl rfl (by decide) hK) rfl rfl rfl (fun q => nomatch q) h
theorem b59_19 {g : Nat → Nat} {C S : Nat} {σ : PS} {Q : Rs → PS → Prop} {r0 : Nat} {r1 : Nat} {x2 : Int32}
    (h : WP g C S 59 2 [some (.ref r0), some (.ref r1), some (.int (x2 + 1))] [] σ Q) :
    WP g C S 59 19 [some (.ref r0), some (.ref r1), some (.int x2)] [] σ Q := by
  refine r_inc (v := 1) (ls' := [some (.ref r0), some (.ref r1), some (.int (x2 + 1))]) dX5_addString_19 rfl (Nat.le_of_ble_eq_true rfl) (by decide) rfl ?_
  refine r_goto (t := 2) dX5_addString_22 (by decide) ?_
  exact h
theorem b60_0 {g : Nat → Nat} {C S : Nat} {σ : PS} {Q : Rs → PS → Prop} {r0 : Nat} {r1 : Nat}
    (h : zK σ r1 = 7 ∧ zK σ r0 = 7 ∧ WP g C S 61 0 [some (.ref r0), some (.ref r1), some (.int 0), some (.int (zI σ r1 1)), none] [] σ (KK g C S 60 10 [some (.ref r0), some (.ref r1)] [] Q false)) :
    WP g C S 60 0 [some (.ref r0), some (.ref r1)] [] σ Q := by
  refine r_g (pc' := 1) (ls' := [some (.ref r0), some (.ref r1)]) (st' := [.ref r0]) dX5_addText_0 (fun _ => rfl) ?_
  refine r_g (pc' := 2) (ls' := [some (.ref r0), some (.ref r1)]) (st' := [.ref r1, .ref r0]) dX5_addText_1 (fun _ => rfl) ?_
  refine r_ic (v := 0) dX5_addText_2 (by decide) ?_
  refine r_g (pc' := 4) (ls' := [some (.ref r0), some (.ref r1)]) (st' := [.ref r1, .int 0, .ref r1, .ref r0]) dX5_addText_3 (fun _ => rfl) ?_
  obtain ⟨hK, h⟩ := h
  refine r_getI dX5_addText_4 rfl (by decide) rfl hK ?_
  obtain ⟨hK, h⟩ := h
  exact r_call (th := false) dX5_addText_7 (fun _ => ex_calV rfl (by decide)) rfl (Nat.le_of_ble_eq_true rfl) (Nat.le_of_ble_eq_true rfl) (Nat.le_of_ble_eq_true rfl) (rcv0 rfl rfl (by decide) hK) rfl rfl rfl (fun q => nomatch q) h
theorem b60_10 {g : Nat → Nat} {C S : Nat} {σ : PS} {Q : Rs → PS → Prop} {l0 : Option Value} {l1 : Option Value}
    (h : Q (Sum.inl none) σ) :
    WP g C S 60 10 [l0, l1] [] σ Q := by
  exact r_vret dX5_addText_10 rfl h
theorem b61_0 {g : Nat → Nat} {C S : Nat} {σ : PS} {Q : Rs → PS → Prop} {r0 : Nat} {r1 : Nat} {x2 : Int32} {x3 : Int32} {l4 : Option Value}
    (h : WP g C S 61 7 [some (.ref r0), some (.ref r1), some (.int x2), some (.int x3), some (.int (if (x2 : Int32) < 0 then 0 else x2))] [] σ Q) :
    WP g C S 61 0 [some (.ref r0), some (.ref r1), some (.int x2), some (.int x3), l4] [] σ Q := by
  refine r_g (pc' := 1) (ls' := [some (.ref r0), some (.ref r1), some (.int x2), some (.int x3), l4]) (st' := [.int x2]) dX5_addPart_0 (fun _ => rfl) ?_
  refine r_ic (v := 0) dX5_addPart_1 (by decide) ?_
  refine r_max dX5_addPart_2 rfl ⟨Nat.le_of_ble_eq_true rfl, Nat.le_of_ble_eq_true rfl, Nat.le_of_ble_eq_true rfl⟩ ?_
  refine r_g (pc' := 7) (ls' := [some (.ref r0), some (.ref r1), some (.int x2), some (.int x3), some (.int (if (x2 : Int32) < 0 then 0 else x2))]) (st' := []) dX5_addPart_5 (fun _ => rfl) ?_
  exact h
theorem b61_7 {g : Nat → Nat} {C S : Nat} {σ : PS} {Q : Rs → PS → Prop} {r0 : Nat} {r1 : Nat} {l2 : Option Value} {x3 : Int32} {x4 : Int32}
    (h : ((x3 : Int32) ≤ x4 → WP g C S 61 39 [some (.ref r0), some (.ref r1), l2, some (.int x3), some (.int x4)] [] σ Q) ∧ (¬ ((x3 : Int32) ≤ x4) → zK σ r1 = 7 ∧ ((zI σ r1 1 : Int32) ≤ x4 → WP g C S 61 39 [some (.ref r0), some (.ref r1), l2, some (.int x3), some (.int x4)] [] σ Q) ∧ (¬ ((zI σ r1 1 : Int32) ≤ x4) → zK σ r1 = 7 ∧ ∃ b1, zP σ r1 0 = some b1 ∧ (∃ n2 : Nat, x4 = nI n2 ∧ n2 < 2147483648 ∧ zK σ b1 = 102 ∧ n2 < zL σ b1 ∧ (zK σ r0 = 7 ∧ WP g C S 57 0 [some (.ref r0), some (.int (zI σ b1 n2)), none] [] σ (KK g C S 61 33 [some (.ref r0), some (.ref r1), l2, some (.int x3), some (.int x4)] [] Q false)))))) :
    WP g C S 61 7 [some (.ref r0), some (.ref r1), l2, some (.int x3), some (.int x4)] [] σ Q := by
  refine r_g (pc' := 9) (ls' := [some (.ref r0), some (.ref r1), l2, some (.int x3), some (.int x4)]) (st' := [.int x4]) dX5_addPart_7 (fun _ => rfl) ?_
  refine r_g (pc' := 10) (ls' := [some (.ref r0), some (.ref r1), l2, some (.int x3), some (.int x4)]) (st' := [.int x3, .int x4]) dX5_addPart_9 (fun _ => rfl) ?_
  obtain ⟨h1, h2⟩ := h
  refine r_icmp (t := 39) dX5_addPart_10 (by decide) c_ge (fun c => ?_) (fun c => ?_)
  · have h := h1 c
    exact h
  · have h := h2 c
    refine r_g (pc' := 15) (ls' := [some (.ref r0), some (.ref r1), l2, some (.int x3), some (.int x4)]) (st' := [.int x4]) dX5_addPart_13 (fun _ => rfl) ?_
    refine r_g (pc' := 16) (ls' := [some (.ref r0), some (.ref r1), l2, some (.int x3), some (.int x4)]) (st' := [.ref r1, .int x4]) dX5_addPart_15 (fun _ => rfl) ?_
    obtain ⟨hK, h⟩ := h
    refine r_getI dX5_addPart_16 rfl (by decide) rfl hK ?_
    obtain ⟨h1, h2⟩ := h
    refine r_icmp (t := 39) dX5_addPart_19 (by decide) c_ge (fun c => ?_) (fun c => ?_)
    · have h := h1 c
      exact h
    · have h := h2 c
      refine r_g (pc' := 23) (ls' := [some (.ref r0), some (.ref r1), l2, some (.int x3), some (.int x4)]) (st' := [.ref r0]) dX5_addPart_22 (fun _ => rfl) ?_
      refine r_g (pc' := 24) (ls' := [some (.ref r0), some (.ref r1), l2, some (.int x3), some (.int x4)]) (st' := [.ref r1, .ref r0]) dX5_addPart_23 (fun _ => rfl) ?_
      obtain ⟨hK, b1, hP, h⟩ := h
      refine r_getP dX5_addPart_24 rfl (by decide) rfl hK hP ?_
      refine r_g (pc' := 29) (ls' := [some (.ref r0), some (.ref r1), l2, some (.int x3), some (.int x4)]) (st' := [.int x4, .ref b1, .ref r0]) dX5_addPart_27 (fun _ => rfl) ?_
      obtain ⟨n2, hj, hn, hK, hL, h⟩ := h
      refine r_cald dX5_addPart_29 hj hn hK hL ?_
      obtain ⟨hK, h⟩ := h
      exact r_call (th := false) dX5_addPart_30 (fun _ => ex_calV rfl (by decide)) rfl (Nat.le_of_ble_eq_true rfl) (Nat.le_of_ble_eq_true rfl) (Nat.le_of_ble_eq_true rfl) (rcv0 rfl rfl (by decide) hK) rfl rfl rfl (fun q => nomatch q) h
theorem b61_33 {g : Nat → Nat} {C S : Nat} {σ : PS} {Q : Rs → PS → Prop} {r0 : Nat} {r1 : Nat} {l2 : Option Value} {x3 : Int32} {x4 : Int32}
    (h : WP g C S 61 7 [some (.ref r0), some (.ref r1), l2, some (.int x3), some (.int (x4 + 1))] [] σ Q) :
    WP g C S 61 33 [some (.ref r0), some (.ref r1), l2, some (.int x3), some (.int x4)] [] σ Q := by
  refine r_inc (v := 1) (ls' := [some (.ref r0), some (.ref r1), l2, some (.int x3), some (.int (x4 + 1))]) dX5_addPart_33 rfl (Nat.le_of_ble_eq_true rfl) (by decide) rfl ?_
  refine r_goto (t := 7) dX5_addPart_36 (by decide) ?_
  exact h
theorem b61_39 {g : Nat → Nat} {C S : Nat} {σ : PS} {Q : Rs → PS → Prop} {l0 : Option Value} {l1 : Option Value} {l2 : Option Value} {l3 : Option Value} {l4 : Option Value}
    (h : Q (Sum.inl none) σ) :
    WP g C S 61 39 [l0, l1, l2, l3, l4] [] σ Q := by
  exact r_vret dX5_addPart_39 rfl h
theorem b62_0 {g : Nat → Nat} {C S : Nat} {σ : PS} {Q : Rs → PS → Prop} {r0 : Nat} {x1 : Int32}
    (h : ((x1 : Int32) < 10 → WP g C S 62 17 [some (.ref r0), some (.int x1)] [] σ Q) ∧ (¬ ((x1 : Int32) < 10) → (¬ (10 : Int32) = 0) ∧ zK σ r0 = 7 ∧ WP g C S 57 0 [some (.ref r0), some (.int (48 + (x1 / 10))), none] [] σ (KK g C S 62 17 [some (.ref r0), some (.int x1)] [] Q false))) :
    WP g C S 62 0 [some (.ref r0), some (.int x1)] [] σ Q := by
  refine r_g (pc' := 1) (ls' := [some (.ref r0), some (.int x1)]) (st' := [.int x1]) dX5_addNumber_0 (fun _ => rfl) ?_
  refine r_bi (v := 10) dX5_addNumber_1 (by decide) ?_
  obtain ⟨h1, h2⟩ := h
  refine r_icmp (t := 17) dX5_addNumber_3 (by decide) c_lt (fun c => ?_) (fun c => ?_)
  · have h := h1 c
    exact h
  · have h := h2 c
    refine r_g (pc' := 7) (ls' := [some (.ref r0), some (.int x1)]) (st' := [.ref r0]) dX5_addNumber_6 (fun _ => rfl) ?_
    refine r_bi (v := 48) dX5_addNumber_7 (by decide) ?_
    refine r_g (pc' := 10) (ls' := [some (.ref r0), some (.int x1)]) (st' := [.int x1, .int 48, .ref r0]) dX5_addNumber_9 (fun _ => rfl) ?_
    refine r_bi (v := 10) dX5_addNumber_10 (by decide) ?_
    obtain ⟨h0, h⟩ := h
    refine r_div dX5_addNumber_12 h0 ?_
    refine r_g (pc' := 14) (ls' := [some (.ref r0), some (.int x1)]) (st' := [.int (48 + (x1 / 10)), .ref r0]) dX5_addNumber_13 (fun _ => rfl) ?_
    obtain ⟨hK, h⟩ := h
    exact r_call (th := false) dX5_addNumber_14 (fun _ => ex_calV rfl (by decide)) rfl (Nat.le_of_ble_eq_true rfl) (Nat.le_of_ble_eq_true rfl) (Nat.le_of_ble_eq_true rfl) (rcv0 rfl rfl (by decide) hK) rfl rfl rfl (fun q => nomatch q) h
theorem b62_17 {g : Nat → Nat} {C S : Nat} {σ : PS} {Q : Rs → PS → Prop} {r0 : Nat} {x1 : Int32}
    (h : (¬ (10 : Int32) = 0) ∧ zK σ r0 = 7 ∧ WP g C S 57 0 [some (.ref r0), some (.int (48 + (x1 - x1 / 10 * 10))), none] [] σ (KK g C S 62 28 [some (.ref r0), some (.int x1)] [] Q false)) :
    WP g C S 62 17 [some (.ref r0), some (.int x1)] [] σ Q := by
  refine r_g (pc' := 18) (ls' := [some (.ref r0), some (.int x1)]) (st' := [.ref r0]) dX5_addNumber_17 (fun _ => rfl) ?_
  refine r_bi (v := 48) dX5_addNumber_18 (by decide) ?_
  refine r_g (pc' := 21) (ls' := [some (.ref r0), some (.int x1)]) (st' := [.int x1, .int 48, .ref r0]) dX5_addNumber_20 (fun _ => rfl) ?_
  refine r_bi (v := 10) dX5_addNumber_21 (by decide) ?_
  obtain ⟨h0, h⟩ := h
  refine r_rem dX5_addNumber_23 h0 ?_
  refine r_g (pc' := 25) (ls' := [some (.ref r0), some (.int x1)]) (st' := [.int (48 + (x1 - x1 / 10 * 10)), .ref r0]) dX5_addNumber_24 (fun _ => rfl) ?_
  obtain ⟨hK, h⟩ := h
  exact r_call (th := false) dX5_addNumber_25 (fun _ => ex_calV rfl (by decide)) rfl (Nat.le_of_ble_eq_true rfl) (Nat.le_of_ble_eq_true rfl) (Nat.le_of_ble_eq_true rfl) (rcv0 rfl rfl (by decide) hK) rfl rfl rfl (fun q => nomatch q) h
theorem b62_28 {g : Nat → Nat} {C S : Nat} {σ : PS} {Q : Rs → PS → Prop} {l0 : Option Value} {l1 : Option Value}
    (h : Q (Sum.inl none) σ) :
    WP g C S 62 28 [l0, l1] [] σ Q := by
  exact r_vret dX5_addNumber_28 rfl h
theorem b63_0 {g : Nat → Nat} {C S : Nat} {σ : PS} {Q : Rs → PS → Prop} {r0 : Nat} {l1 : Option Value}
    (h : WP g C S 63 2 [some (.ref r0), some (.int 0)] [] σ Q) :
    WP g C S 63 0 [some (.ref r0), l1] [] σ Q := by
  refine r_ic (v := 0) dX5_fold_0 (by decide) ?_
  refine r_g (pc' := 2) (ls' := [some (.ref r0), some (.int 0)]) (st' := []) dX5_fold_1 (fun _ => rfl) ?_
  exact h
theorem b63_2 {g : Nat → Nat} {C S : Nat} {σ : PS} {Q : Rs → PS → Prop} {r0 : Nat} {x1 : Int32}
    (h : zK σ r0 = 7 ∧ ((zI σ r0 1 : Int32) ≤ x1 → Q (Sum.inl none) σ) ∧ (¬ ((zI σ r0 1 : Int32) ≤ x1) → zK σ r0 = 7 ∧ ∃ b1, zP σ r0 0 = some b1 ∧ (zK σ r0 = 7 ∧ ∃ b2, zP σ r0 0 = some b2 ∧ (∃ n3 : Nat, x1 = nI n3 ∧ n3 < 2147483648 ∧ zK σ b2 = 102 ∧ n3 < zL σ b2 ∧ (WP g C S 90 0 [some (.int (zI σ b2 n3)), none] [] σ (KK g C S 63 24 [some (.ref r0), some (.int x1)] [.int x1, .ref b1] Q false)))))) :
    WP g C S 63 2 [some (.ref r0), some (.int x1)] [] σ Q := by
  refine r_g (pc' := 3) (ls' := [some (.ref r0), some (.int x1)]) (st' := [.int x1]) dX5_fold_2 (fun _ => rfl) ?_
  refine r_g (pc' := 4) (ls' := [some (.ref r0), some (.int x1)]) (st' := [.ref r0, .int x1]) dX5_fold_3 (fun _ => rfl) ?_
  obtain ⟨hK, h⟩ := h
  refine r_getI dX5_fold_4 rfl (by decide) rfl hK ?_
  obtain ⟨h1, h2⟩ := h
  refine r_icmp (t := 32) dX5_fold_7 (by decide) c_ge (fun c => ?_) (fun c => ?_)
  · have h := h1 c
    exact r_vret dX5_fold_32 rfl h
  · have h := h2 c
    refine r_g (pc' := 11) (ls' := [some (.ref r0), some (.int x1)]) (st' := [.ref r0]) dX5_fold_10 (fun _ => rfl) ?_
    obtain ⟨hK, b1, hP, h⟩ := h
    refine r_getP dX5_fold_11 rfl (by decide) rfl hK hP ?_
    refine r_g (pc' := 15) (ls' := [some (.ref r0), some (.int x1)]) (st' := [.int x1, .ref b1]) dX5_fold_14 (fun _ => rfl) ?_
    refine r_g (pc' := 16) (ls' := [some (.ref r0), some (.int x1)]) (st' := [.ref r0, .int x1, .ref b1]) dX5_fold_15 (fun _ => rfl) ?_
    obtain ⟨hK, b2, hP, h⟩ := h
    refine r_getP dX5_fold_16 rfl (by decide) rfl hK hP ?_
    refine r_g (pc' := 20) (ls' := [some (.ref r0), some (.int x1)]) (st' := [.int x1, .ref b2, .int x1, .ref b1]) dX5_fold_19 (fun _ => rfl) ?_
    obtain ⟨n3, hj, hn, hK, hL, h⟩ := h
    refine r_cald dX5_fold_20 hj hn hK hL ?_
    exact r_call (th := false) dX5_fold_21 (fun _ => ex_calS rfl (by decide)) rfl (Nat.le_of_ble_eq_true rfl) (Nat.le_of_ble_eq_true rfl) (Nat.le_of_ble_eq_true rfl) rfl rfl rfl rfl (fun q => nomatch q) h
theorem b63_24 {g : Nat → Nat} {C S : Nat} {σ : PS} {Q : Rs → PS → Prop} {r0 : Nat} {x1 : Int32} {u0 : Int32} {u1 : Int32} {w2 : Nat}
    (h : ∃ n1 : Nat, u1 = nI n1 ∧ n1 < 2147483648 ∧ zK σ w2 = 102 ∧ n1 < zL σ w2 ∧ (∀ τ2, τ2 = stI σ w2 n1 (vp_nar .char ((u0.toUInt32 % 65536).toInt32)) → WP g C S 63 2 [some (.ref r0), some (.int (x1 + 1))] [] τ2 Q)) :
    WP g C S 63 24 [some (.ref r0), some (.int x1)] [.int u0, .int u1, .ref w2] σ Q := by
  refine r_g (pc' := 25) (ls' := [some (.ref r0), some (.int x1)]) (st' := [.int ((u0.toUInt32 % 65536).toInt32), .int u1, .ref w2]) dX5_fold_24 (fun _ => rfl) ?_
  obtain ⟨n1, hj, hn, hK, hL, h⟩ := h
  refine r_cast dX5_fold_25 hj hn hK hL ?_
  generalize eτ2 : stI σ w2 n1 (vp_nar .char ((u0.toUInt32 % 65536).toInt32)) = τ2
  replace h := h _ eτ2.symm
  refine r_inc (v := 1) (ls' := [some (.ref r0), some (.int (x1 + 1))]) dX5_fold_26 rfl (Nat.le_of_ble_eq_true rfl) (by decide) rfl ?_
  refine r_goto (t := 2) dX5_fold_29 (by decide) ?_
  exact h
theorem b64_0 {g : Nat → Nat} {C S : Nat} {σ : PS} {Q : Rs → PS → Prop} {r0 : Nat} {r1 : Nat} {l2 : Option Value} {l3 : Option Value}
    (h : zK σ r0 = 7 ∧ zK σ r1 = 7 ∧ WP g C S 64 14 [some (.ref r0), some (.ref r1), some (.int (if (zI σ r1 1 : Int32) < (zI σ r0 1) then zI σ r1 1 else zI σ r0 1)), some (.int 0)] [] σ Q) :
    WP g C S 64 0 [some (.ref r0), some (.ref r1), l2, l3] [] σ Q := by
  refine r_g (pc' := 1) (ls' := [some (.ref r0), some (.ref r1), l2, l3]) (st' := [.ref r0]) dX5_comparedTo_0 (fun _ => rfl) ?_
  obtain ⟨hK, h⟩ := h
  refine r_getI dX5_comparedTo_1 rfl (by decide) rfl hK ?_
  refine r_g (pc' := 5) (ls' := [some (.ref r0), some (.ref r1), l2, l3]) (st' := [.ref r1, .int (zI σ r0 1)]) dX5_comparedTo_4 (fun _ => rfl) ?_
  obtain ⟨hK, h⟩ := h
  refine r_getI dX5_comparedTo_5 rfl (by decide) rfl hK ?_
  refine r_min dX5_comparedTo_8 rfl ⟨Nat.le_of_ble_eq_true rfl, Nat.le_of_ble_eq_true rfl, Nat.le_of_ble_eq_true rfl⟩ ?_
  refine r_g (pc' := 12) (ls' := [some (.ref r0), some (.ref r1), some (.int (if (zI σ r1 1 : Int32) < (zI σ r0 1) then zI σ r1 1 else zI σ r0 1)), l3]) (st' := []) dX5_comparedTo_11 (fun _ => rfl) ?_
  refine r_ic (v := 0) dX5_comparedTo_12 (by decide) ?_
  refine r_g (pc' := 14) (ls' := [some (.ref r0), some (.ref r1), some (.int (if (zI σ r1 1 : Int32) < (zI σ r0 1) then zI σ r1 1 else zI σ r0 1)), some (.int 0)]) (st' := []) dX5_comparedTo_13 (fun _ => rfl) ?_
  exact h
theorem b64_14 {g : Nat → Nat} {C S : Nat} {σ : PS} {Q : Rs → PS → Prop} {r0 : Nat} {r1 : Nat} {x2 : Int32} {x3 : Int32}
    (h : ((x2 : Int32) ≤ x3 → zK σ r0 = 7 ∧ zK σ r1 = 7 ∧ Q (Sum.inl (some (.int ((zI σ r0 1) - (zI σ r1 1))))) σ) ∧ (¬ ((x2 : Int32) ≤ x3) → zK σ r0 = 7 ∧ ∃ b1, zP σ r0 0 = some b1 ∧ (∃ n2 : Nat, x3 = nI n2 ∧ n2 < 2147483648 ∧ zK σ b1 = 102 ∧ n2 < zL σ b1 ∧ (zK σ r1 = 7 ∧ ∃ b3, zP σ r1 0 = some b3 ∧ (∃ n4 : Nat, x3 = nI n4 ∧ n4 < 2147483648 ∧ zK σ b3 = 102 ∧ n4 < zL σ b3 ∧ (((zI σ b1 n2 : Int32) = (zI σ b3 n4) → WP g C S 64 14 [some (.ref r0), some (.ref r1), some (.int x2), some (.int (x3 + 1))] [] σ Q) ∧ (¬ ((zI σ b1 n2 : Int32) = (zI σ b3 n4)) → zK σ r0 = 7 ∧ ∃ b5, zP σ r0 0 = some b5 ∧ (∃ n6 : Nat, x3 = nI n6 ∧ n6 < 2147483648 ∧ zK σ b5 = 102 ∧ n6 < zL σ b5 ∧ (zK σ r1 = 7 ∧ ∃ b7, zP σ r1 0 = some b7 ∧ (∃ n8 : Nat, x3 = nI n8 ∧ n8 < 2147483648 ∧ zK σ b7 = 102 ∧ n8 < zL σ b7 ∧ (Q (Sum.inl (some (.int ((zI σ b5 n6) - (zI σ b7 n8))))) σ))))))))))) :
    WP g C S 64 14 [some (.ref r0), some (.ref r1), some (.int x2), some (.int x3)] [] σ Q := by
  refine r_g (pc' := 15) (ls' := [some (.ref r0), some (.ref r1), some (.int x2), some (.int x3)]) (st' := [.int x3]) dX5_comparedTo_14 (fun _ => rfl) ?_
  refine r_g (pc' := 16) (ls' := [some (.ref r0), some (.ref r1), some (.int x2), some (.int x3)]) (st' := [.int x2, .int x3]) dX5_comparedTo_15 (fun _ => rfl) ?_
  obtain ⟨h1, h2⟩ := h
  refine r_icmp (t := 54) dX5_comparedTo_16 (by decide) c_ge (fun c => ?_) (fun c => ?_)
  · have h := h1 c
    refine r_g (pc' := 55) (ls' := [some (.ref r0), some (.ref r1), some (.int x2), some (.int x3)]) (st' := [.ref r0]) dX5_comparedTo_54 (fun _ => rfl) ?_
    obtain ⟨hK, h⟩ := h
    refine r_getI dX5_comparedTo_55 rfl (by decide) rfl hK ?_
    refine r_g (pc' := 59) (ls' := [some (.ref r0), some (.ref r1), some (.int x2), some (.int x3)]) (st' := [.ref r1, .int (zI σ r0 1)]) dX5_comparedTo_58 (fun _ => rfl) ?_
    obtain ⟨hK, h⟩ := h
    refine r_getI dX5_comparedTo_59 rfl (by decide) rfl hK ?_
    refine r_g (pc' := 63) (ls' := [some (.ref r0), some (.ref r1), some (.int x2), some (.int x3)]) (st' := [.int ((zI σ r0 1) - (zI σ r1 1))]) dX5_comparedTo_62 (fun _ => rfl) ?_
    exact r_ret dX5_comparedTo_63 rfl h
  · have h := h2 c
    refine r_g (pc' := 20) (ls' := [some (.ref r0), some (.ref r1), some (.int x2), some (.int x3)]) (st' := [.ref r0]) dX5_comparedTo_19 (fun _ => rfl) ?_
    obtain ⟨hK, b1, hP, h⟩ := h
    refine r_getP dX5_comparedTo_20 rfl (by decide) rfl hK hP ?_
    refine r_g (pc' := 24) (ls' := [some (.ref r0), some (.ref r1), some (.int x2), some (.int x3)]) (st' := [.int x3, .ref b1]) dX5_comparedTo_23 (fun _ => rfl) ?_
    obtain ⟨n2, hj, hn, hK, hL, h⟩ := h
    refine r_cald dX5_comparedTo_24 hj hn hK hL ?_
    refine r_g (pc' := 26) (ls' := [some (.ref r0), some (.ref r1), some (.int x2), some (.int x3)]) (st' := [.ref r1, .int (zI σ b1 n2)]) dX5_comparedTo_25 (fun _ => rfl) ?_
    obtain ⟨hK, b3, hP, h⟩ := h
    refine r_getP dX5_comparedTo_26 rfl (by decide) rfl hK hP ?_
    refine r_g (pc' := 30) (ls' := [some (.ref r0), some (.ref r1), some (.int x2), some (.int x3)]) (st' := [.int x3, .ref b3, .int (zI σ b1 n2)]) dX5_comparedTo_29 (fun _ => rfl) ?_
    obtain ⟨n4, hj, hn, hK, hL, h⟩ := h
    refine r_cald dX5_comparedTo_30 hj hn hK hL ?_
    obtain ⟨h1, h2⟩ := h
    refine r_icmp (t := 48) dX5_comparedTo_31 (by decide) c_eq (fun c => ?_) (fun c => ?_)
    · have h := h1 c
      refine r_inc (v := 1) (ls' := [some (.ref r0), some (.ref r1), some (.int x2), some (.int (x3 + 1))]) dX5_comparedTo_48 rfl (Nat.le_of_ble_eq_true rfl) (by decide) rfl ?_
      refine r_goto (t := 14) dX5_comparedTo_51 (by decide) ?_
      exact h
    · have h := h2 c
      refine r_g (pc' := 35) (ls' := [some (.ref r0), some (.ref r1), some (.int x2), some (.int x3)]) (st' := [.ref r0]) dX5_comparedTo_34 (fun _ => rfl) ?_
      obtain ⟨hK, b5, hP, h⟩ := h
      refine r_getP dX5_comparedTo_35 rfl (by decide) rfl hK hP ?_
      refine r_g (pc' := 39) (ls' := [some (.ref r0), some (.ref r1), some (.int x2), some (.int x3)]) (st' := [.int x3, .ref b5]) dX5_comparedTo_38 (fun _ => rfl) ?_
      obtain ⟨n6, hj, hn, hK, hL, h⟩ := h
      refine r_cald dX5_comparedTo_39 hj hn hK hL ?_
      refine r_g (pc' := 41) (ls' := [some (.ref r0), some (.ref r1), some (.int x2), some (.int x3)]) (st' := [.ref r1, .int (zI σ b5 n6)]) dX5_comparedTo_40 (fun _ => rfl) ?_
      obtain ⟨hK, b7, hP, h⟩ := h
      refine r_getP dX5_comparedTo_41 rfl (by decide) rfl hK hP ?_
      refine r_g (pc' := 45) (ls' := [some (.ref r0), some (.ref r1), some (.int x2), some (.int x3)]) (st' := [.int x3, .ref b7, .int (zI σ b5 n6)]) dX5_comparedTo_44 (fun _ => rfl) ?_
      obtain ⟨n8, hj, hn, hK, hL, h⟩ := h
      refine r_cald dX5_comparedTo_45 hj hn hK hL ?_
      refine r_g (pc' := 47) (ls' := [some (.ref r0), some (.ref r1), some (.int x2), some (.int x3)]) (st' := [.int ((zI σ b5 n6) - (zI σ b7 n8))]) dX5_comparedTo_46 (fun _ => rfl) ?_
      exact r_ret dX5_comparedTo_47 rfl h
theorem b65_0 {g : Nat → Nat} {C S : Nat} {σ : PS} {Q : Rs → PS → Prop} {r0 : Nat} {r1 : Nat}
    (h : zK σ r0 = 7 ∧ zK σ r1 = 7 ∧ (¬ (zI σ r0 1 : Int32) = (zI σ r1 1) → WP g C S 65 23 [some (.ref r0), some (.ref r1)] [] σ Q) ∧ (¬ (¬ (zI σ r0 1 : Int32) = (zI σ r1 1)) → zK σ r0 = 7 ∧ WP g C S 64 0 [some (.ref r0), some (.ref r1), none, none] [] σ (KK g C S 65 16 [some (.ref r0), some (.ref r1)] [] Q false))) :
    WP g C S 65 0 [some (.ref r0), some (.ref r1)] [] σ Q := by
  refine r_g (pc' := 1) (ls' := [some (.ref r0), some (.ref r1)]) (st' := [.ref r0]) dX5_sameAs_0 (fun _ => rfl) ?_
  obtain ⟨hK, h⟩ := h
  refine r_getI dX5_sameAs_1 rfl (by decide) rfl hK ?_
  refine r_g (pc' := 5) (ls' := [some (.ref r0), some (.ref r1)]) (st' := [.ref r1, .int (zI σ r0 1)]) dX5_sameAs_4 (fun _ => rfl) ?_
  obtain ⟨hK, h⟩ := h
  refine r_getI dX5_sameAs_5 rfl (by decide) rfl hK ?_
  obtain ⟨h1, h2⟩ := h
  refine r_icmp (t := 23) dX5_sameAs_8 (by decide) c_ne (fun c => ?_) (fun c => ?_)
  · have h := h1 c
    exact h
  · have h := h2 c
    refine r_g (pc' := 12) (ls' := [some (.ref r0), some (.ref r1)]) (st' := [.ref r0]) dX5_sameAs_11 (fun _ => rfl) ?_
    refine r_g (pc' := 13) (ls' := [some (.ref r0), some (.ref r1)]) (st' := [.ref r1, .ref r0]) dX5_sameAs_12 (fun _ => rfl) ?_
    obtain ⟨hK, h⟩ := h
    exact r_call (th := false) dX5_sameAs_13 (fun _ => ex_calV rfl (by decide)) rfl (Nat.le_of_ble_eq_true rfl) (Nat.le_of_ble_eq_true rfl) (Nat.le_of_ble_eq_true rfl) (rcv0 rfl rfl (by decide) hK) rfl rfl rfl (fun q => nomatch q) h
theorem b65_16 {g : Nat → Nat} {C S : Nat} {σ : PS} {Q : Rs → PS → Prop} {l0 : Option Value} {l1 : Option Value} {u0 : Int32}
    (h : (¬ (u0 : Int32) = 0 → WP g C S 65 23 [l0, l1] [] σ Q) ∧ (¬ (¬ (u0 : Int32) = 0) → WP g C S 65 24 [l0, l1] [.int 1] σ Q)) :
    WP g C S 65 16 [l0, l1] [.int u0] σ Q := by
  obtain ⟨h1, h2⟩ := h
  refine r_if (t := 23) dX5_sameAs_16 (by decide) c_ne (fun c => ?_) (fun c => ?_)
  · have h := h1 c
    exact h
  · have h := h2 c
    refine r_ic (v := 1) dX5_sameAs_19 (by decide) ?_
    refine r_goto (t := 24) dX5_sameAs_20 (by decide) ?_
    exact h
theorem b65_23 {g : Nat → Nat} {C S : Nat} {σ : PS} {Q : Rs → PS → Prop} {l0 : Option Value} {l1 : Option Value}
    (h : WP g C S 65 24 [l0, l1] [.int 0] σ Q) :
    WP g C S 65 23 [l0, l1] [] σ Q := by
  refine r_ic (v := 0) dX5_sameAs_23 (by decide) ?_
  exact h
theorem b65_24 {g : Nat → Nat} {C S : Nat} {σ : PS} {Q : Rs → PS → Prop} {l0 : Option Value} {l1 : Option Value} {u0 : Int32}
    (h : ((u0 : Int32) = 0 ∨ u0 = 1) ∧ Q (Sum.inl (some (.int u0))) σ) :
    WP g C S 65 24 [l0, l1] [.int u0] σ Q := by
  obtain ⟨hn, h⟩ := h
  exact r_ret dX5_sameAs_24 (by rcases hn with q | q <;> rw [q] <;> rfl) h
theorem b90_0 {g : Nat → Nat} {C S : Nat} {σ : PS} {Q : Rs → PS → Prop} {x0 : Int32} {l1 : Option Value}
    (h : ((x0 : Int32) < 65 → WP g C S 90 20 [some (.int x0), l1] [] σ Q) ∧ (¬ ((x0 : Int32) < 65) → ((90 : Int32) < x0 → WP g C S 90 20 [some (.int x0), l1] [] σ Q) ∧ (¬ ((90 : Int32) < x0) → Q (Sum.inl (some (.int ((x0 - 65) + 97)))) σ))) :
    WP g C S 90 0 [some (.int x0), l1] [] σ Q := by
  refine r_g (pc' := 1) (ls' := [some (.int x0), l1]) (st' := [.int x0]) dX6_folded_0 (fun _ => rfl) ?_
  refine r_bi (v := 65) dX6_folded_1 (by decide) ?_
  obtain ⟨h1, h2⟩ := h
  refine r_icmp (t := 20) dX6_folded_3 (by decide) c_lt (fun c => ?_) (fun c => ?_)
  · have h := h1 c
    exact h
  · have h := h2 c
    refine r_g (pc' := 7) (ls' := [some (.int x0), l1]) (st' := [.int x0]) dX6_folded_6 (fun _ => rfl) ?_
    refine r_bi (v := 90) dX6_folded_7 (by decide) ?_
    obtain ⟨h1, h2⟩ := h
    refine r_icmp (t := 20) dX6_folded_9 (by decide) c_gt (fun c => ?_) (fun c => ?_)
    · have h := h1 c
      exact h
    · have h := h2 c
      refine r_g (pc' := 13) (ls' := [some (.int x0), l1]) (st' := [.int x0]) dX6_folded_12 (fun _ => rfl) ?_
      refine r_bi (v := 65) dX6_folded_13 (by decide) ?_
      refine r_g (pc' := 16) (ls' := [some (.int x0), l1]) (st' := [.int (x0 - 65)]) dX6_folded_15 (fun _ => rfl) ?_
      refine r_bi (v := 97) dX6_folded_16 (by decide) ?_
      refine r_g (pc' := 19) (ls' := [some (.int x0), l1]) (st' := [.int ((x0 - 65) + 97)]) dX6_folded_18 (fun _ => rfl) ?_
      exact r_ret dX6_folded_19 rfl h
theorem b90_20 {g : Nat → Nat} {C S : Nat} {σ : PS} {Q : Rs → PS → Prop} {x0 : Int32} {l1 : Option Value}
    (h : ((x0 - 192 : Int32) < 0 → WP g C S 90 48 [some (.int x0), some (.int (x0 - 192))] [] σ Q) ∧ (¬ ((x0 - 192 : Int32) < 0) → zK σ (g 100) = 1000 ∧ WP g C S 150 0 [some (.ref (g 100))] [] σ (KK g C S 90 36 [some (.int x0), some (.int (x0 - 192))] [.int (x0 - 192)] Q false))) :
    WP g C S 90 20 [some (.int x0), l1] [] σ Q := by
  refine r_g (pc' := 21) (ls' := [some (.int x0), l1]) (st' := [.int x0]) dX6_folded_20 (fun _ => rfl) ?_
  refine r_si (v := 192) dX6_folded_21 (by decide) ?_
  refine r_g (pc' := 25) (ls' := [some (.int x0), l1]) (st' := [.int (x0 - 192)]) dX6_folded_24 (fun _ => rfl) ?_
  refine r_g (pc' := 26) (ls' := [some (.int x0), some (.int (x0 - 192))]) (st' := []) dX6_folded_25 (fun _ => rfl) ?_
  refine r_g (pc' := 27) (ls' := [some (.int x0), some (.int (x0 - 192))]) (st' := [.int (x0 - 192)]) dX6_folded_26 (fun _ => rfl) ?_
  obtain ⟨h1, h2⟩ := h
  refine r_if (t := 48) dX6_folded_27 (by decide) c_lt (fun c => ?_) (fun c => ?_)
  · have h := h1 c
    exact h
  · have h := h2 c
    refine r_g (pc' := 31) (ls' := [some (.int x0), some (.int (x0 - 192))]) (st' := [.int (x0 - 192)]) dX6_folded_30 (fun _ => rfl) ?_
    refine r_ldcS dX6_folded_31 rfl ?_
    obtain ⟨hK, h⟩ := h
    exact r_call (th := false) dX6_folded_33 (fun _ => ex_calV rfl (by decide)) rfl (Nat.le_of_ble_eq_true rfl) (Nat.le_of_ble_eq_true rfl) (Nat.le_of_ble_eq_true rfl) (rcv0S rfl rfl rfl hK) rfl rfl rfl (fun q => nomatch q) h
theorem b90_36 {g : Nat → Nat} {C S : Nat} {σ : PS} {Q : Rs → PS → Prop} {x0 : Int32} {x1 : Int32} {u0 : Int32} {u1 : Int32}
    (h : ((u0 : Int32) ≤ u1 → WP g C S 90 48 [some (.int x0), some (.int x1)] [] σ Q) ∧ (¬ ((u0 : Int32) ≤ u1) → zK σ (g 100) = 1000 ∧ WP g C S 151 0 [some (.ref (g 100)), some (.int x1)] [] σ (KK g C S 90 45 [some (.int x0), some (.int x1)] [] Q false))) :
    WP g C S 90 36 [some (.int x0), some (.int x1)] [.int u0, .int u1] σ Q := by
  obtain ⟨h1, h2⟩ := h
  refine r_icmp (t := 48) dX6_folded_36 (by decide) c_ge (fun c => ?_) (fun c => ?_)
  · have h := h1 c
    exact h
  · have h := h2 c
    refine r_ldcS dX6_folded_39 rfl ?_
    refine r_g (pc' := 42) (ls' := [some (.int x0), some (.int x1)]) (st' := [.int x1, .ref (g 100)]) dX6_folded_41 (fun _ => rfl) ?_
    obtain ⟨hK, h⟩ := h
    exact r_call (th := false) dX6_folded_42 (fun _ => ex_calV rfl (by decide)) rfl (Nat.le_of_ble_eq_true rfl) (Nat.le_of_ble_eq_true rfl) (Nat.le_of_ble_eq_true rfl) (rcv0S rfl rfl rfl hK) rfl rfl rfl (fun q => nomatch q) h
theorem b90_45 {g : Nat → Nat} {C S : Nat} {σ : PS} {Q : Rs → PS → Prop} {l0 : Option Value} {l1 : Option Value} {u0 : Int32}
    (h : WP g C S 90 49 [l0, l1] [.int u0] σ Q) :
    WP g C S 90 45 [l0, l1] [.int u0] σ Q := by
  refine r_goto (t := 49) dX6_folded_45 (by decide) ?_
  exact h
theorem b90_48 {g : Nat → Nat} {C S : Nat} {σ : PS} {Q : Rs → PS → Prop} {x0 : Int32} {l1 : Option Value}
    (h : WP g C S 90 49 [some (.int x0), l1] [.int x0] σ Q) :
    WP g C S 90 48 [some (.int x0), l1] [] σ Q := by
  refine r_g (pc' := 49) (ls' := [some (.int x0), l1]) (st' := [.int x0]) dX6_folded_48 (fun _ => rfl) ?_
  exact h
theorem b90_49 {g : Nat → Nat} {C S : Nat} {σ : PS} {Q : Rs → PS → Prop} {l0 : Option Value} {l1 : Option Value} {u0 : Int32}
    (h : Q (Sum.inl (some (.int u0))) σ) :
    WP g C S 90 49 [l0, l1] [.int u0] σ Q := by
  exact r_ret dX6_folded_49 rfl h
