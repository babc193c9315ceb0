theorem b150_0 {g : Nat → Nat} {C S : Nat} {σ : PS} {Q : Rs → PS → Prop} {r0 : Nat}
    (h : zK σ r0 = 1000 ∧ ∃ b1, zP σ r0 0 = some b1 ∧ (((101 ≤ zK σ b1 ∧ zK σ b1 ≤ 104) ∨ zK σ b1 = 1001 ∨ zK σ b1 = 1003) ∧ zK σ r0 = 1000 ∧ WP g C S 152 0 [some (.ref r0)] [] σ (KK g C S 150 9 [some (.ref r0)] [.int (nI (zL σ b1))] Q false))) :
    WP g C S 150 0 [some (.ref r0)] [] σ Q := by
  refine r_g (pc' := 1) (ls' := [some (.ref r0)]) (st' := [.ref r0]) dJ0_length_8abf5_0 (fun _ => rfl) ?_
  obtain ⟨hK, b1, hP, h⟩ := h
  refine r_getV dJ0_length_8abf5_1 rfl hK hP ?_
  obtain ⟨hK, h⟩ := h
  refine r_alen dJ0_length_8abf5_4 hK ?_
  refine r_g (pc' := 6) (ls' := [some (.ref r0)]) (st' := [.ref r0, .int (nI (zL σ b1))]) dJ0_length_8abf5_5 (fun _ => rfl) ?_
  obtain ⟨hK, h⟩ := h
  exact r_call (th := false) dJ0_length_8abf5_6 (fun _ => ex_calV rfl (by decide)) rfl (Nat.le_of_ble_eq_true rfl) (Nat.le_of_ble_eq_true rfl) (Nat.le_of_ble_eq_true rfl) (rcv0S rfl rfl rfl hK) rfl rfl rfl (fun q => nomatch q) h
theorem b150_9 {g : Nat → Nat} {C S : Nat} {σ : PS} {Q : Rs → PS → Prop} {l0 : Option Value} {u0 : Int32} {u1 : Int32}
    (h : Q (Sum.inl (some (.int (u1 >>> (u0 &&& 31))))) σ) :
    WP g C S 150 9 [l0] [.int u0, .int u1] σ Q := by
  refine r_g (pc' := 10) (ls' := [l0]) (st' := [.int (u1 >>> (u0 &&& 31))]) dJ0_length_8abf5_9 (fun _ => rfl) ?_
  exact r_ret dJ0_length_8abf5_10 rfl h
theorem b151_0 {g : Nat → Nat} {C S : Nat} {σ : PS} {Q : Rs → PS → Prop} {r0 : Nat} {x1 : Int32}
    (h : zK σ r0 = 1000 ∧ WP g C S 153 0 [some (.ref r0)] [] σ (KK g C S 151 4 [some (.ref r0), some (.int x1)] [] Q false)) :
    WP g C S 151 0 [some (.ref r0), some (.int x1)] [] σ Q := by
  refine r_g (pc' := 1) (ls' := [some (.ref r0), some (.int x1)]) (st' := [.ref r0]) dJ0_charAt_5068e_0 (fun _ => rfl) ?_
  obtain ⟨hK, h⟩ := h
  exact r_call (th := false) dJ0_charAt_5068e_1 (fun _ => ex_calV rfl (by decide)) rfl (Nat.le_of_ble_eq_true rfl) (Nat.le_of_ble_eq_true rfl) (Nat.le_of_ble_eq_true rfl) (rcv0S rfl rfl rfl hK) rfl rfl rfl (fun q => nomatch q) h
theorem b151_4 {g : Nat → Nat} {C S : Nat} {σ : PS} {Q : Rs → PS → Prop} {r0 : Nat} {x1 : Int32} {u0 : Int32}
    (h : ((u0 : Int32) = 0 → zK σ r0 = 1000 ∧ ∃ b1, zP σ r0 0 = some b1 ∧ (False)) ∧ (¬ ((u0 : Int32) = 0) → zK σ r0 = 1000 ∧ ∃ b2, zP σ r0 0 = some b2 ∧ (WP g C S 155 0 [some (.ref b2), some (.int x1)] [] σ (KK g C S 151 15 [some (.ref r0), some (.int x1)] [] Q false)))) :
    WP g C S 151 4 [some (.ref r0), some (.int x1)] [.int u0] σ Q := by
  obtain ⟨h1, h2⟩ := h
  refine r_if (t := 16) dJ0_charAt_5068e_4 (by decide) c_eq (fun c => ?_) (fun c => ?_)
  · have h := h1 c
    refine r_g (pc' := 17) (ls' := [some (.ref r0), some (.int x1)]) (st' := [.ref r0]) dJ0_charAt_5068e_16 (fun _ => rfl) ?_
    obtain ⟨hK, b1, hP, h⟩ := h
    refine r_getV dJ0_charAt_5068e_17 rfl hK hP ?_
    refine r_g (pc' := 21) (ls' := [some (.ref r0), some (.int x1)]) (st' := [.int x1, .ref b1]) dJ0_charAt_5068e_20 (fun _ => rfl) ?_
    exact absurd h id
  · have h := h2 c
    refine r_g (pc' := 8) (ls' := [some (.ref r0), some (.int x1)]) (st' := [.ref r0]) dJ0_charAt_5068e_7 (fun _ => rfl) ?_
    obtain ⟨hK, b2, hP, h⟩ := h
    refine r_getV dJ0_charAt_5068e_8 rfl hK hP ?_
    refine r_g (pc' := 12) (ls' := [some (.ref r0), some (.int x1)]) (st' := [.int x1, .ref b2]) dJ0_charAt_5068e_11 (fun _ => rfl) ?_
    exact r_call (th := false) dJ0_charAt_5068e_12 (fun _ => ex_calS rfl (by decide)) rfl (Nat.le_of_ble_eq_true rfl) (Nat.le_of_ble_eq_true rfl) (Nat.le_of_ble_eq_true rfl) rfl rfl rfl rfl (fun q => nomatch q) h
theorem b151_15 {g : Nat → Nat} {C S : Nat} {σ : PS} {Q : Rs → PS → Prop} {l0 : Option Value} {l1 : Option Value} {u0 : Int32}
    (h : narrow .char (.int u0) = .int u0 ∧ Q (Sum.inl (some (.int u0))) σ) :
    WP g C S 151 15 [l0, l1] [.int u0] σ Q := by
  obtain ⟨hn, h⟩ := h
  exact r_ret dJ0_charAt_5068e_15 (decide_eq_true hn) h
theorem b152_0 {g : Nat → Nat} {C S : Nat} {σ : PS} {Q : Rs → PS → Prop} {r0 : Nat}
    (h : ((1 : Int32) = 0 → WP g C S 152 14 [some (.ref r0)] [.int 1] σ Q) ∧ (¬ ((1 : Int32) = 0) → zK σ r0 = 1000 ∧ WP g C S 152 14 [some (.ref r0)] [.int (zI σ r0 1)] σ Q)) :
    WP g C S 152 0 [some (.ref r0)] [] σ Q := by
  refine r_gets dJ0_coder_7d493_0 rfl rfl ?_
  obtain ⟨h1, h2⟩ := h
  refine r_if (t := 13) dJ0_coder_7d493_3 (by decide) c_eq (fun c => ?_) (fun c => ?_)
  · have h := h1 c
    refine r_ic (v := 1) dJ0_coder_7d493_13 (by decide) ?_
    exact h
  · have h := h2 c
    refine r_g (pc' := 7) (ls' := [some (.ref r0)]) (st' := [.ref r0]) dJ0_coder_7d493_6 (fun _ => rfl) ?_
    obtain ⟨hK, h⟩ := h
    refine r_getD dJ0_coder_7d493_7 rfl hK ?_
    refine r_goto (t := 14) dJ0_coder_7d493_10 (by decide) ?_
    exact h
theorem b152_14 {g : Nat → Nat} {C S : Nat} {σ : PS} {Q : Rs → PS → Prop} {l0 : Option Value} {u0 : Int32}
    (h : narrow .byte (.int u0) = .int u0 ∧ Q (Sum.inl (some (.int u0))) σ) :
    WP g C S 152 14 [l0] [.int u0] σ Q := by
  obtain ⟨hn, h⟩ := h
  exact r_ret dJ0_coder_7d493_14 (decide_eq_true hn) h
theorem b153_0 {g : Nat → Nat} {C S : Nat} {σ : PS} {Q : Rs → PS → Prop} {r0 : Nat}
    (h : ((1 : Int32) = 0 → WP g C S 153 17 [some (.ref r0)] [] σ Q) ∧ (¬ ((1 : Int32) = 0) → zK σ r0 = 1000 ∧ (¬ (zI σ r0 1 : Int32) = 0 → WP g C S 153 17 [some (.ref r0)] [] σ Q) ∧ (¬ (¬ (zI σ r0 1 : Int32) = 0) → WP g C S 153 18 [some (.ref r0)] [.int 1] σ Q))) :
    WP g C S 153 0 [some (.ref r0)] [] σ Q := by
  refine r_gets dJ0_isLatin1_aae02_0 rfl rfl ?_
  obtain ⟨h1, h2⟩ := h
  refine r_if (t := 17) dJ0_isLatin1_aae02_3 (by decide) c_eq (fun c => ?_) (fun c => ?_)
  · have h := h1 c
    exact h
  · have h := h2 c
    refine r_g (pc' := 7) (ls' := [some (.ref r0)]) (st' := [.ref r0]) dJ0_isLatin1_aae02_6 (fun _ => rfl) ?_
    obtain ⟨hK, h⟩ := h
    refine r_getD dJ0_isLatin1_aae02_7 rfl hK ?_
    obtain ⟨h1, h2⟩ := h
    refine r_if (t := 17) dJ0_isLatin1_aae02_10 (by decide) c_ne (fun c => ?_) (fun c => ?_)
    · have h := h1 c
      exact h
    · have h := h2 c
      refine r_ic (v := 1) dJ0_isLatin1_aae02_13 (by decide) ?_
      refine r_goto (t := 18) dJ0_isLatin1_aae02_14 (by decide) ?_
      exact h
theorem b153_17 {g : Nat → Nat} {C S : Nat} {σ : PS} {Q : Rs → PS → Prop} {l0 : Option Value}
    (h : WP g C S 153 18 [l0] [.int 0] σ Q) :
    WP g C S 153 17 [l0] [] σ Q := by
  refine r_ic (v := 0) dJ0_isLatin1_aae02_17 (by decide) ?_
  exact h
theorem b153_18 {g : Nat → Nat} {C S : Nat} {σ : PS} {Q : Rs → PS → Prop} {l0 : Option Value} {u0 : Int32}
    (h : ((u0 : Int32) = 0 ∨ u0 = 1) ∧ Q (Sum.inl (some (.int u0))) σ) :
    WP g C S 153 18 [l0] [.int u0] σ Q := by
  obtain ⟨hn, h⟩ := h
  exact r_ret dJ0_isLatin1_aae02_18 (by rcases hn with q | q <;> rw [q] <;> rfl) h
theorem b154_0 {g : Nat → Nat} {C S : Nat} {σ : PS} {Q : Rs → PS → Prop} {x0 : Int32} {x1 : Int32}
    (h : (g 6 = 0 → WP g C S 171 0 [some (.int x0), some (.int x1), some .null] [] σ (KK g C S 154 8 [some (.int x0), some (.int x1)] [] Q false)) ∧ (¬ g 6 = 0 → WP g C S 171 0 [some (.int x0), some (.int x1), some (.ref (g 6 - 1))] [] σ (KK g C S 154 8 [some (.int x0), some (.int x1)] [] Q false))) :
    WP g C S 154 0 [some (.int x0), some (.int x1)] [] σ Q := by
  refine r_g (pc' := 1) (ls' := [some (.int x0), some (.int x1)]) (st' := [.int x0]) dJ0_checkIndex_df160_0 (fun _ => rfl) ?_
  refine r_g (pc' := 2) (ls' := [some (.int x0), some (.int x1)]) (st' := [.int x1, .int x0]) dJ0_checkIndex_df160_1 (fun _ => rfl) ?_
  obtain ⟨h1, h2⟩ := h
  by_cases hg : g 6 = 0
  · have h := h1 hg
    refine r_gets dJ0_checkIndex_df160_2 rfl (v := .null) (by unfold stO; rw [if_pos hg]; rfl) ?_
    exact r_call (th := false) dJ0_checkIndex_df160_5 (fun _ => ex_calS rfl (by decide)) rfl (Nat.le_of_ble_eq_true rfl) (Nat.le_of_ble_eq_true rfl) (Nat.le_of_ble_eq_true rfl) rfl rfl rfl rfl (fun q => nomatch q) h
  · have h := h2 hg
    refine r_gets dJ0_checkIndex_df160_2 rfl (v := .ref (g 6 - 1)) (by unfold stO; rw [if_neg hg]; rfl) ?_
    exact r_call (th := false) dJ0_checkIndex_df160_5 (fun _ => ex_calS rfl (by decide)) rfl (Nat.le_of_ble_eq_true rfl) (Nat.le_of_ble_eq_true rfl) (Nat.le_of_ble_eq_true rfl) rfl rfl rfl rfl (fun q => nomatch q) h
theorem b154_8 {g : Nat → Nat} {C S : Nat} {σ : PS} {Q : Rs → PS → Prop} {l0 : Option Value} {l1 : Option Value} {u0 : Int32}
    (h : Q (Sum.inl none) σ) :
    WP g C S 154 8 [l0, l1] [.int u0] σ Q := by
  refine r_g (pc' := 9) (ls' := [l0, l1]) (st' := []) dJ0_checkIndex_df160_8 (fun _ => rfl) ?_
  exact r_vret dJ0_checkIndex_df160_9 rfl h
theorem b155_0 {g : Nat → Nat} {C S : Nat} {σ : PS} {Q : Rs → PS → Prop} {r0 : Nat} {x1 : Int32}
    (h : ((101 ≤ zK σ r0 ∧ zK σ r0 ≤ 104) ∨ zK σ r0 = 1001 ∨ zK σ r0 = 1003) ∧ WP g C S 154 0 [some (.int x1), some (.int (nI (zL σ r0)))] [] σ (KK g C S 155 6 [some (.ref r0), some (.int x1)] [] Q false)) :
    WP g C S 155 0 [some (.ref r0), some (.int x1)] [] σ Q := by
  refine r_g (pc' := 1) (ls' := [some (.ref r0), some (.int x1)]) (st' := [.int x1]) dJ1_charAt_3b067_0 (fun _ => rfl) ?_
  refine r_g (pc' := 2) (ls' := [some (.ref r0), some (.int x1)]) (st' := [.ref r0, .int x1]) dJ1_charAt_3b067_1 (fun _ => rfl) ?_
  obtain ⟨hK, h⟩ := h
  refine r_alen dJ1_charAt_3b067_2 hK ?_
  exact r_call (th := false) dJ1_charAt_3b067_3 (fun _ => ex_calS rfl (by decide)) rfl (Nat.le_of_ble_eq_true rfl) (Nat.le_of_ble_eq_true rfl) (Nat.le_of_ble_eq_true rfl) rfl rfl rfl rfl (fun q => nomatch q) h
theorem b155_6 {g : Nat → Nat} {C S : Nat} {σ : PS} {Q : Rs → PS → Prop} {r0 : Nat} {x1 : Int32}
    (h : ∃ n1 : Nat, x1 = nI n1 ∧ n1 < 2147483648 ∧ zK σ r0 = 1001 ∧ n1 < zL σ r0 ∧ (narrow .char (.int ((((zI σ r0 n1) &&& 255).toUInt32 % 65536).toInt32)) = .int ((((zI σ r0 n1) &&& 255).toUInt32 % 65536).toInt32) ∧ Q (Sum.inl (some (.int ((((zI σ r0 n1) &&& 255).toUInt32 % 65536).toInt32)))) σ)) :
    WP g C S 155 6 [some (.ref r0), some (.int x1)] [] σ Q := by
  refine r_g (pc' := 7) (ls' := [some (.ref r0), some (.int x1)]) (st' := [.ref r0]) dJ1_charAt_3b067_6 (fun _ => rfl) ?_
  refine r_g (pc' := 8) (ls' := [some (.ref r0), some (.int x1)]) (st' := [.int x1, .ref r0]) dJ1_charAt_3b067_7 (fun _ => rfl) ?_
  obtain ⟨n1, hj, hn, hK, hL, h⟩ := h
  refine r_bald dJ1_charAt_3b067_8 hj hn hK hL ?_
  refine r_si (v := 255) dJ1_charAt_3b067_9 (by decide) ?_
  refine r_g (pc' := 13) (ls' := [some (.ref r0), some (.int x1)]) (st' := [.int ((zI σ r0 n1) &&& 255)]) dJ1_charAt_3b067_12 (fun _ => rfl) ?_
  refine r_g (pc' := 14) (ls' := [some (.ref r0), some (.int x1)]) (st' := [.int ((((zI σ r0 n1) &&& 255).toUInt32 % 65536).toInt32)]) dJ1_charAt_3b067_13 (fun _ => rfl) ?_
  obtain ⟨hn, h⟩ := h
  exact r_ret dJ1_charAt_3b067_14 (decide_eq_true hn) h
theorem b156_0 {g : Nat → Nat} {C S : Nat} {σ : PS} {Q : Rs → PS → Prop} {r0 : Nat}
    (h : Q (Sum.inl none) σ) :
    WP g C S 156 0 [some (.ref r0)] [] σ Q := by
  refine r_g (pc' := 1) (ls' := [some (.ref r0)]) (st' := [.ref r0]) dJxa1e45_init_da8c8_0 (fun _ => rfl) ?_
  refine r_oi dJxa1e45_init_da8c8_1 rfl ⟨Nat.le_of_ble_eq_true rfl, Nat.le_of_ble_eq_true rfl, Nat.le_of_ble_eq_true rfl⟩ ?_
  exact r_vret dJxa1e45_init_da8c8_4 rfl h
theorem b157_0 {g : Nat → Nat} {C S : Nat} {σ : PS} {Q : Rs → PS → Prop} {r0 : Nat}
    (h : WP g C S 156 0 [some (.ref r0)] [] σ (KK g C S 157 4 [some (.ref r0)] [] Q false)) :
    WP g C S 157 0 [some (.ref r0)] [] σ Q := by
  refine r_g (pc' := 1) (ls' := [some (.ref r0)]) (st' := [.ref r0]) dJxc12de_init_da8c8_0 (fun _ => rfl) ?_
  exact r_call (th := false) dJxc12de_init_da8c8_1 (fun _ => ex_calI rfl (by decide)) rfl (Nat.le_of_ble_eq_true rfl) (Nat.le_of_ble_eq_true rfl) (Nat.le_of_ble_eq_true rfl) rfl rfl rfl rfl (fun q => nomatch q) h
theorem b157_4 {g : Nat → Nat} {C S : Nat} {σ : PS} {Q : Rs → PS → Prop} {r0 : Nat}
    (h : zK σ r0 = 1 ∧ (∀ τ1, τ1 = stI σ r0 0 0 → Q (Sum.inl none) τ1)) :
    WP g C S 157 4 [some (.ref r0)] [] σ Q := by
  refine r_g (pc' := 5) (ls' := [some (.ref r0)]) (st' := [.ref r0]) dJxc12de_init_da8c8_4 (fun _ => rfl) ?_
  refine r_ic (v := 0) dJxc12de_init_da8c8_5 (by decide) ?_
  obtain ⟨hK, h⟩ := h
  refine r_putI dJxc12de_init_da8c8_6 rfl (by decide) (Or.inl rfl) rfl (Or.inl rfl) hK ?_
  generalize eτ1 : stI σ r0 0 0 = τ1
  replace h := h _ eτ1.symm
  exact r_vret dJxc12de_init_da8c8_9 rfl h
theorem b158_0 {g : Nat → Nat} {C S : Nat} {σ : PS} {Q : Rs → PS → Prop} {r0 : Nat}
    (h : WP g C S 157 0 [some (.ref r0)] [] σ (KK g C S 158 4 [some (.ref r0)] [] Q false)) :
    WP g C S 158 0 [some (.ref r0)] [] σ Q := by
  refine r_g (pc' := 1) (ls' := [some (.ref r0)]) (st' := [.ref r0]) dJx4a65c_init_da8c8_0 (fun _ => rfl) ?_
  exact r_call (th := false) dJx4a65c_init_da8c8_1 (fun _ => ex_calI rfl (by decide)) rfl (Nat.le_of_ble_eq_true rfl) (Nat.le_of_ble_eq_true rfl) (Nat.le_of_ble_eq_true rfl) rfl rfl rfl rfl (fun q => nomatch q) h
theorem b158_4 {g : Nat → Nat} {C S : Nat} {σ : PS} {Q : Rs → PS → Prop} {r0 : Nat}
    (h : zK σ r0 = 1 ∧ (∀ τ1, τ1 = stP σ r0 1 (some (g 1)) → Q (Sum.inl none) τ1)) :
    WP g C S 158 4 [some (.ref r0)] [] σ Q := by
  refine r_g (pc' := 5) (ls' := [some (.ref r0)]) (st' := [.ref r0]) dJx4a65c_init_da8c8_4 (fun _ => rfl) ?_
  refine r_gets dJx4a65c_init_da8c8_5 rfl rfl ?_
  obtain ⟨hK, h⟩ := h
  refine r_putP dJx4a65c_init_da8c8_8 rfl (by decide) (Or.inl rfl) rfl hK ?_
  generalize eτ1 : stP σ r0 1 (some (g 1)) = τ1
  replace h := h _ eτ1.symm
  exact r_vret dJx4a65c_init_da8c8_11 rfl h
theorem b159_0 {g : Nat → Nat} {C S : Nat} {σ : PS} {Q : Rs → PS → Prop} {r0 : Nat} {x1 : Int32} {l2 : Option Value} {l3 : Option Value}
    (h : zK σ r0 = 1 ∧ ∃ b1, zP σ r0 1 = some b1 ∧ (((101 ≤ zK σ b1 ∧ zK σ b1 ≤ 104) ∨ zK σ b1 = 1001 ∨ zK σ b1 = 1003) ∧ ((0 : Int32) < (nI (zL σ b1)) → WP g C S 159 20 [some (.ref r0), some (.int x1), some (.int (nI (zL σ b1))), l3] [] σ Q) ∧ (¬ ((0 : Int32) < (nI (zL σ b1))) → zK σ r0 = 1 ∧ ∃ b2, zP σ r0 1 = some b2 ∧ ((b2 = g 1 → ∃ n3 : Nat, (if (10 : Int32) < x1 then x1 else 10) = nI n3 ∧ n3 ≤ 100000 ∧ zN σ + 1 ≤ C ∧ zS σ + n3 ≤ S ∧ (∀ τ4, τ4 = alA σ 104 n3 → zK τ4 r0 = 1 ∧ (∀ τ5, τ5 = stP τ4 r0 1 (some (zN σ)) → Q (Sum.inl (some (.ref (zN σ)))) τ5))) ∧ (¬ (b2 = g 1) → WP g C S 159 20 [some (.ref r0), some (.int x1), some (.int (nI (zL σ b1))), l3] [] σ Q))))) :
    WP g C S 159 0 [some (.ref r0), some (.int x1), l2, l3] [] σ Q := by
  refine r_g (pc' := 1) (ls' := [some (.ref r0), some (.int x1), l2, l3]) (st' := [.ref r0]) dJx4a65c_grow_92f84_0 (fun _ => rfl) ?_
  obtain ⟨hK, b1, hP, h⟩ := h
  refine r_getP dJx4a65c_grow_92f84_1 rfl (by decide) rfl hK hP ?_
  obtain ⟨hK, h⟩ := h
  refine r_alen dJx4a65c_grow_92f84_4 hK ?_
  refine r_g (pc' := 6) (ls' := [some (.ref r0), some (.int x1), some (.int (nI (zL σ b1))), l3]) (st' := []) dJx4a65c_grow_92f84_5 (fun _ => rfl) ?_
  refine r_g (pc' := 7) (ls' := [some (.ref r0), some (.int x1), some (.int (nI (zL σ b1))), l3]) (st' := [.int (nI (zL σ b1))]) dJx4a65c_grow_92f84_6 (fun _ => rfl) ?_
  obtain ⟨h1, h2⟩ := h
  refine r_if (t := 20) dJx4a65c_grow_92f84_7 (by decide) c_gt (fun c => ?_) (fun c => ?_)
  · have h := h1 c
    exact h
  · have h := h2 c
    refine r_g (pc' := 11) (ls' := [some (.ref r0), some (.int x1), some (.int (nI (zL σ b1))), l3]) (st' := [.ref r0]) dJx4a65c_grow_92f84_10 (fun _ => rfl) ?_
    obtain ⟨hK, b2, hP, h⟩ := h
    refine r_getP dJx4a65c_grow_92f84_11 rfl (by decide) rfl hK hP ?_
    refine r_gets dJx4a65c_grow_92f84_14 rfl rfl ?_
    obtain ⟨h1, h2⟩ := h
    refine r_aeq (t := 45) dJx4a65c_grow_92f84_17 (by decide) (fun c => ?_) (fun c => ?_)
    · have h := h1 c
      refine r_g (pc' := 46) (ls' := [some (.ref r0), some (.int x1), some (.int (nI (zL σ b1))), l3]) (st' := [.ref r0]) dJx4a65c_grow_92f84_45 (fun _ => rfl) ?_
      refine r_bi (v := 10) dJx4a65c_grow_92f84_46 (by decide) ?_
      refine r_g (pc' := 49) (ls' := [some (.ref r0), some (.int x1), some (.int (nI (zL σ b1))), l3]) (st' := [.int x1, .int 10, .ref r0]) dJx4a65c_grow_92f84_48 (fun _ => rfl) ?_
      refine r_max dJx4a65c_grow_92f84_49 rfl ⟨Nat.le_of_ble_eq_true rfl, Nat.le_of_ble_eq_true rfl, Nat.le_of_ble_eq_true rfl⟩ ?_
      obtain ⟨n3, hj, hn, hC, hS, h⟩ := h
      refine r_anew (κ := 104) dJx4a65c_grow_92f84_52 rfl (Or.inr rfl) rfl hj hn hC hS ?_
      generalize eτ4 : alA σ 104 n3 = τ4
      replace h := h _ eτ4.symm
      refine r_g (pc' := 56) (ls' := [some (.ref r0), some (.int x1), some (.int (nI (zL σ b1))), l3]) (st' := [.ref (zN σ), .ref r0, .ref (zN σ)]) dJx4a65c_grow_92f84_55 (fun _ => rfl) ?_
      obtain ⟨hK, h⟩ := h
      refine r_putP dJx4a65c_grow_92f84_56 rfl (by decide) (Or.inl rfl) rfl hK ?_
      generalize eτ5 : stP τ4 r0 1 (some (zN σ)) = τ5
      replace h := h _ eτ5.symm
      exact r_aret dJx4a65c_grow_92f84_59 rfl h
    · have h := h2 c
      exact h
theorem b159_20 {g : Nat → Nat} {C S : Nat} {σ : PS} {Q : Rs → PS → Prop} {r0 : Nat} {x1 : Int32} {x2 : Int32} {l3 : Option Value}
    (h : WP g C S 170 0 [some (.int x2), some (.int (x1 - x2)), some (.int (x2 >>> (1 &&& 31))), none] [] σ (KK g C S 159 30 [some (.ref r0), some (.int x1), some (.int x2), l3] [] Q false)) :
    WP g C S 159 20 [some (.ref r0), some (.int x1), some (.int x2), l3] [] σ Q := by
  refine r_g (pc' := 21) (ls' := [some (.ref r0), some (.int x1), some (.int x2), l3]) (st' := [.int x2]) dJx4a65c_grow_92f84_20 (fun _ => rfl) ?_
  refine r_g (pc' := 22) (ls' := [some (.ref r0), some (.int x1), some (.int x2), l3]) (st' := [.int x1, .int x2]) dJx4a65c_grow_92f84_21 (fun _ => rfl) ?_
  refine r_g (pc' := 23) (ls' := [some (.ref r0), some (.int x1), some (.int x2), l3]) (st' := [.int x2, .int x1, .int x2]) dJx4a65c_grow_92f84_22 (fun _ => rfl) ?_
  refine r_g (pc' := 24) (ls' := [some (.ref r0), some (.int x1), some (.int x2), l3]) (st' := [.int (x1 - x2), .int x2]) dJx4a65c_grow_92f84_23 (fun _ => rfl) ?_
  refine r_g (pc' := 25) (ls' := [some (.ref r0), some (.int x1), some (.int x2), l3]) (st' := [.int x2, .int (x1 - x2), .int x2]) dJx4a65c_grow_92f84_24 (fun _ => rfl) ?_
  refine r_ic (v := 1) dJx4a65c_grow_92f84_25 (by decide) ?_
  refine r_g (pc' := 27) (ls' := [some (.ref r0), some (.int x1), some (.int x2), l3]) (st' := [.int (x2 >>> (1 &&& 31)), .int (x1 - x2), .int x2]) dJx4a65c_grow_92f84_26 (fun _ => rfl) ?_
  exact r_call (th := false) dJx4a65c_grow_92f84_27 (fun _ => ex_calS rfl (by decide)) rfl (Nat.le_of_ble_eq_true rfl) (Nat.le_of_ble_eq_true rfl) (Nat.le_of_ble_eq_true rfl) rfl rfl rfl rfl (fun q => nomatch q) h
theorem b159_30 {g : Nat → Nat} {C S : Nat} {σ : PS} {Q : Rs → PS → Prop} {r0 : Nat} {l1 : Option Value} {l2 : Option Value} {l3 : Option Value} {u0 : Int32}
    (h : zK σ r0 = 1 ∧ ∃ b1, zP σ r0 1 = some b1 ∧ (WP g C S 167 0 [some (.ref b1), some (.int u0)] [] σ (KK g C S 159 40 [some (.ref r0), l1, (clr l2), some (.int u0)] [.ref r0] Q false))) :
    WP g C S 159 30 [some (.ref r0), l1, l2, l3] [.int u0] σ Q := by
  refine r_g (pc' := 31) (ls' := [some (.ref r0), l1, (clr l2), some (.int u0)]) (st' := []) dJx4a65c_grow_92f84_30 (fun _ => rfl) ?_
  refine r_g (pc' := 32) (ls' := [some (.ref r0), l1, (clr l2), some (.int u0)]) (st' := [.ref r0]) dJx4a65c_grow_92f84_31 (fun _ => rfl) ?_
  refine r_g (pc' := 33) (ls' := [some (.ref r0), l1, (clr l2), some (.int u0)]) (st' := [.ref r0, .ref r0]) dJx4a65c_grow_92f84_32 (fun _ => rfl) ?_
  obtain ⟨hK, b1, hP, h⟩ := h
  refine r_getP dJx4a65c_grow_92f84_33 rfl (by decide) rfl hK hP ?_
  refine r_g (pc' := 37) (ls' := [some (.ref r0), l1, (clr l2), some (.int u0)]) (st' := [.int u0, .ref b1, .ref r0]) dJx4a65c_grow_92f84_36 (fun _ => rfl) ?_
  exact r_call (th := false) dJx4a65c_grow_92f84_37 (fun _ => ex_calS rfl (by decide)) rfl (Nat.le_of_ble_eq_true rfl) (Nat.le_of_ble_eq_true rfl) (Nat.le_of_ble_eq_true rfl) rfl rfl rfl rfl (fun q => nomatch q) h
theorem b159_40 {g : Nat → Nat} {C S : Nat} {σ : PS} {Q : Rs → PS → Prop} {l0 : Option Value} {l1 : Option Value} {l2 : Option Value} {l3 : Option Value} {w0 : Nat} {w1 : Nat}
    (h : zK σ w1 = 1 ∧ (∀ τ1, τ1 = stP σ w1 1 (some w0) → Q (Sum.inl (some (.ref w0))) τ1)) :
    WP g C S 159 40 [l0, l1, l2, l3] [.ref w0, .ref w1] σ Q := by
  refine r_g (pc' := 41) (ls' := [l0, l1, l2, l3]) (st' := [.ref w0, .ref w1, .ref w0]) dJx4a65c_grow_92f84_40 (fun _ => rfl) ?_
  obtain ⟨hK, h⟩ := h
  refine r_putP dJx4a65c_grow_92f84_41 rfl (by decide) (Or.inl rfl) rfl hK ?_
  generalize eτ1 : stP σ w1 1 (some w0) = τ1
  replace h := h _ eτ1.symm
  exact r_aret dJx4a65c_grow_92f84_44 rfl h
theorem b160_0 {g : Nat → Nat} {C S : Nat} {σ : PS} {Q : Rs → PS → Prop} {r0 : Nat}
    (h : zK σ r0 = 1 ∧ zK σ r0 = 1 ∧ WP g C S 159 0 [some (.ref r0), some (.int ((zI σ r0 2) + 1)), none, none] [] σ (KK g C S 160 10 [some (.ref r0)] [] Q false)) :
    WP g C S 160 0 [some (.ref r0)] [] σ Q := by
  refine r_g (pc' := 1) (ls' := [some (.ref r0)]) (st' := [.ref r0]) dJx4a65c_grow_d5877_0 (fun _ => rfl) ?_
  refine r_g (pc' := 2) (ls' := [some (.ref r0)]) (st' := [.ref r0, .ref r0]) dJx4a65c_grow_d5877_1 (fun _ => rfl) ?_
  obtain ⟨hK, h⟩ := h
  refine r_getI dJx4a65c_grow_d5877_2 rfl (by decide) rfl hK ?_
  refine r_ic (v := 1) dJx4a65c_grow_d5877_5 (by decide) ?_
  refine r_g (pc' := 7) (ls' := [some (.ref r0)]) (st' := [.int ((zI σ r0 2) + 1), .ref r0]) dJx4a65c_grow_d5877_6 (fun _ => rfl) ?_
  obtain ⟨hK, h⟩ := h
  exact r_call (th := false) dJx4a65c_grow_d5877_7 (fun _ => ex_calV rfl (by decide)) rfl (Nat.le_of_ble_eq_true rfl) (Nat.le_of_ble_eq_true rfl) (Nat.le_of_ble_eq_true rfl) (rcv0 rfl rfl (by decide) hK) rfl rfl rfl (fun q => nomatch q) h
theorem b160_10 {g : Nat → Nat} {C S : Nat} {σ : PS} {Q : Rs → PS → Prop} {l0 : Option Value} {w0 : Nat}
    (h : Q (Sum.inl (some (.ref w0))) σ) :
    WP g C S 160 10 [l0] [.ref w0] σ Q := by
  exact r_aret dJx4a65c_grow_d5877_10 rfl h
theorem b161_0 {g : Nat → Nat} {C S : Nat} {σ : PS} {Q : Rs → PS → Prop} {r0 : Nat}
    (h : zK σ r0 = 1 ∧ Q (Sum.inl (some (.int (zI σ r0 2)))) σ) :
    WP g C S 161 0 [some (.ref r0)] [] σ Q := by
  refine r_g (pc' := 1) (ls' := [some (.ref r0)]) (st' := [.ref r0]) dJx4a65c_size_8abf5_0 (fun _ => rfl) ?_
  obtain ⟨hK, h⟩ := h
  refine r_getI dJx4a65c_size_8abf5_1 rfl (by decide) rfl hK ?_
  exact r_ret dJx4a65c_size_8abf5_4 rfl h
theorem b162_0 {g : Nat → Nat} {C S : Nat} {σ : PS} {Q : Rs → PS → Prop} {r0 : Nat} {x1 : Int32}
    (h : zK σ r0 = 1 ∧ ∃ b1, zP σ r0 1 = some b1 ∧ (∃ n2 : Nat, x1 = nI n2 ∧ n2 < 2147483648 ∧ (zK σ b1 = 103 ∨ zK σ b1 = 104) ∧ n2 < zL σ b1 ∧ ∃ b3, zP σ b1 n2 = some b3 ∧ (Q (Sum.inl (some (.ref b3))) σ))) :
    WP g C S 162 0 [some (.ref r0), some (.int x1)] [] σ Q := by
  refine r_g (pc' := 1) (ls' := [some (.ref r0), some (.int x1)]) (st' := [.ref r0]) dJx4a65c_elementData_915e3_0 (fun _ => rfl) ?_
  obtain ⟨hK, b1, hP, h⟩ := h
  refine r_getP dJx4a65c_elementData_915e3_1 rfl (by decide) rfl hK hP ?_
  refine r_g (pc' := 5) (ls' := [some (.ref r0), some (.int x1)]) (st' := [.int x1, .ref b1]) dJx4a65c_elementData_915e3_4 (fun _ => rfl) ?_
  obtain ⟨n2, hj, hn, hK, hL, b3, hP, h⟩ := h
  refine r_aald dJx4a65c_elementData_915e3_5 hj hn hK hL hP ?_
  exact r_aret dJx4a65c_elementData_915e3_6 rfl h
theorem b163_0 {g : Nat → Nat} {C S : Nat} {σ : PS} {Q : Rs → PS → Prop} {r0 : Nat} {x1 : Int32}
    (h : zK σ r0 = 1 ∧ WP g C S 169 0 [some (.int x1), some (.int (zI σ r0 2))] [] σ (KK g C S 163 8 [some (.ref r0), some (.int x1)] [] Q false)) :
    WP g C S 163 0 [some (.ref r0), some (.int x1)] [] σ Q := by
  refine r_g (pc' := 1) (ls' := [some (.ref r0), some (.int x1)]) (st' := [.int x1]) dJx4a65c_get_915e3_0 (fun _ => rfl) ?_
  refine r_g (pc' := 2) (ls' := [some (.ref r0), some (.int x1)]) (st' := [.ref r0, .int x1]) dJx4a65c_get_915e3_1 (fun _ => rfl) ?_
  obtain ⟨hK, h⟩ := h
  refine r_getI dJx4a65c_get_915e3_2 rfl (by decide) rfl hK ?_
  exact r_call (th := false) dJx4a65c_get_915e3_5 (fun _ => ex_calS rfl (by decide)) rfl (Nat.le_of_ble_eq_true rfl) (Nat.le_of_ble_eq_true rfl) (Nat.le_of_ble_eq_true rfl) rfl rfl rfl rfl (fun q => nomatch q) h
theorem b163_8 {g : Nat → Nat} {C S : Nat} {σ : PS} {Q : Rs → PS → Prop} {r0 : Nat} {x1 : Int32} {u0 : Int32}
    (h : zK σ r0 = 1 ∧ WP g C S 162 0 [some (.ref r0), some (.int x1)] [] σ (KK g C S 163 14 [some (.ref r0), some (.int x1)] [] Q false)) :
    WP g C S 163 8 [some (.ref r0), some (.int x1)] [.int u0] σ Q := by
  refine r_g (pc' := 9) (ls' := [some (.ref r0), some (.int x1)]) (st' := []) dJx4a65c_get_915e3_8 (fun _ => rfl) ?_
  refine r_g (pc' := 10) (ls' := [some (.ref r0), some (.int x1)]) (st' := [.ref r0]) dJx4a65c_get_915e3_9 (fun _ => rfl) ?_
  refine r_g (pc' := 11) (ls' := [some (.ref r0), some (.int x1)]) (st' := [.int x1, .ref r0]) dJx4a65c_get_915e3_10 (fun _ => rfl) ?_
  obtain ⟨hK, h⟩ := h
  exact r_call (th := false) dJx4a65c_get_915e3_11 (fun _ => ex_calV rfl (by decide)) rfl (Nat.le_of_ble_eq_true rfl) (Nat.le_of_ble_eq_true rfl) (Nat.le_of_ble_eq_true rfl) (rcv0 rfl rfl (by decide) hK) rfl rfl rfl (fun q => nomatch q) h
theorem b163_14 {g : Nat → Nat} {C S : Nat} {σ : PS} {Q : Rs → PS → Prop} {l0 : Option Value} {l1 : Option Value} {w0 : Nat}
    (h : Q (Sum.inl (some (.ref w0))) σ) :
    WP g C S 163 14 [l0, l1] [.ref w0] σ Q := by
  exact r_aret dJx4a65c_get_915e3_14 rfl h
theorem b164_0 {g : Nat → Nat} {C S : Nat} {σ : PS} {Q : Rs → PS → Prop} {r0 : Nat} {x1 : Int32} {r2 : Nat} {l3 : Option Value}
    (h : zK σ r0 = 1 ∧ WP g C S 169 0 [some (.int x1), some (.int (zI σ r0 2))] [] σ (KK g C S 164 8 [some (.ref r0), some (.int x1), some (.ref r2), l3] [] Q false)) :
    WP g C S 164 0 [some (.ref r0), some (.int x1), some (.ref r2), l3] [] σ Q := by
  refine r_g (pc' := 1) (ls' := [some (.ref r0), some (.int x1), some (.ref r2), l3]) (st' := [.int x1]) dJx4a65c_set_bcc79_0 (fun _ => rfl) ?_
  refine r_g (pc' := 2) (ls' := [some (.ref r0), some (.int x1), some (.ref r2), l3]) (st' := [.ref r0, .int x1]) dJx4a65c_set_bcc79_1 (fun _ => rfl) ?_
  obtain ⟨hK, h⟩ := h
  refine r_getI dJx4a65c_set_bcc79_2 rfl (by decide) rfl hK ?_
  exact r_call (th := false) dJx4a65c_set_bcc79_5 (fun _ => ex_calS rfl (by decide)) rfl (Nat.le_of_ble_eq_true rfl) (Nat.le_of_ble_eq_true rfl) (Nat.le_of_ble_eq_true rfl) rfl rfl rfl rfl (fun q => nomatch q) h
theorem b164_8 {g : Nat → Nat} {C S : Nat} {σ : PS} {Q : Rs → PS → Prop} {r0 : Nat} {x1 : Int32} {r2 : Nat} {l3 : Option Value} {u0 : Int32}
    (h : zK σ r0 = 1 ∧ WP g C S 162 0 [some (.ref r0), some (.int x1)] [] σ (KK g C S 164 14 [some (.ref r0), some (.int x1), some (.ref r2), l3] [] Q false)) :
    WP g C S 164 8 [some (.ref r0), some (.int x1), some (.ref r2), l3] [.int u0] σ Q := by
  refine r_g (pc' := 9) (ls' := [some (.ref r0), some (.int x1), some (.ref r2), l3]) (st' := []) dJx4a65c_set_bcc79_8 (fun _ => rfl) ?_
  refine r_g (pc' := 10) (ls' := [some (.ref r0), some (.int x1), some (.ref r2), l3]) (st' := [.ref r0]) dJx4a65c_set_bcc79_9 (fun _ => rfl) ?_
  refine r_g (pc' := 11) (ls' := [some (.ref r0), some (.int x1), some (.ref r2), l3]) (st' := [.int x1, .ref r0]) dJx4a65c_set_bcc79_10 (fun _ => rfl) ?_
  obtain ⟨hK, h⟩ := h
  exact r_call (th := false) dJx4a65c_set_bcc79_11 (fun _ => ex_calV rfl (by decide)) rfl (Nat.le_of_ble_eq_true rfl) (Nat.le_of_ble_eq_true rfl) (Nat.le_of_ble_eq_true rfl) (rcv0 rfl rfl (by decide) hK) rfl rfl rfl (fun q => nomatch q) h
theorem b164_14 {g : Nat → Nat} {C S : Nat} {σ : PS} {Q : Rs → PS → Prop} {r0 : Nat} {x1 : Int32} {r2 : Nat} {l3 : Option Value} {w0 : Nat}
    (h : zK σ r0 = 1 ∧ ∃ b1, zP σ r0 1 = some b1 ∧ (∃ n2 : Nat, x1 = nI n2 ∧ n2 < 2147483648 ∧ ((zK σ b1 = 103 ∧ zK σ r2 = 7) ∨ (zK σ b1 = 104 ∧ 1 ≤ zK σ r2 ∧ zK σ r2 ≤ 9)) ∧ n2 < zL σ b1 ∧ (∀ τ3, τ3 = stP σ b1 n2 (some r2) → Q (Sum.inl (some (.ref w0))) τ3))) :
    WP g C S 164 14 [some (.ref r0), some (.int x1), some (.ref r2), l3] [.ref w0] σ Q := by
  refine r_g (pc' := 15) (ls' := [some (.ref r0), some (.int x1), some (.ref r2), some (.ref w0)]) (st' := []) dJx4a65c_set_bcc79_14 (fun _ => rfl) ?_
  refine r_g (pc' := 16) (ls' := [some (.ref r0), some (.int x1), some (.ref r2), some (.ref w0)]) (st' := [.ref r0]) dJx4a65c_set_bcc79_15 (fun _ => rfl) ?_
  obtain ⟨hK, b1, hP, h⟩ := h
  refine r_getP dJx4a65c_set_bcc79_16 rfl (by decide) rfl hK hP ?_
  refine r_g (pc' := 20) (ls' := [some (.ref r0), some (.int x1), some (.ref r2), some (.ref w0)]) (st' := [.int x1, .ref b1]) dJx4a65c_set_bcc79_19 (fun _ => rfl) ?_
  refine r_g (pc' := 21) (ls' := [some (.ref r0), some (.int x1), some (.ref r2), some (.ref w0)]) (st' := [.ref r2, .int x1, .ref b1]) dJx4a65c_set_bcc79_20 (fun _ => rfl) ?_
  obtain ⟨n2, hj, hn, hK, hL, h⟩ := h
  refine r_aast dJx4a65c_set_bcc79_21 hj hn hK hL ?_
  generalize eτ3 : stP σ b1 n2 (some r2) = τ3
  replace h := h _ eτ3.symm
  refine r_g (pc' := 23) (ls' := [some (.ref r0), some (.int x1), some (.ref r2), some (.ref w0)]) (st' := [.ref w0]) dJx4a65c_set_bcc79_22 (fun _ => rfl) ?_
  exact r_aret dJx4a65c_set_bcc79_23 rfl h
theorem b165_0 {g : Nat → Nat} {C S : Nat} {σ : PS} {Q : Rs → PS → Prop} {r0 : Nat} {r1 : Nat} {r2 : Nat} {x3 : Int32}
    (h : ((101 ≤ zK σ r2 ∧ zK σ r2 ≤ 104) ∨ zK σ r2 = 1001 ∨ zK σ r2 = 1003) ∧ (¬ (x3 : Int32) = (nI (zL σ r2)) → WP g C S 165 11 [some (.ref r0), some (.ref r1), some (.ref r2), some (.int x3)] [] σ Q) ∧ (¬ (¬ (x3 : Int32) = (nI (zL σ r2))) → zK σ r0 = 1 ∧ WP g C S 160 0 [some (.ref r0)] [] σ (KK g C S 165 10 [some (.ref r0), some (.ref r1), some (.ref r2), some (.int x3)] [] Q false))) :
    WP g C S 165 0 [some (.ref r0), some (.ref r1), some (.ref r2), some (.int x3)] [] σ Q := by
  refine r_g (pc' := 1) (ls' := [some (.ref r0), some (.ref r1), some (.ref r2), some (.int x3)]) (st' := [.int x3]) dJx4a65c_add_72be8_0 (fun _ => rfl) ?_
  refine r_g (pc' := 2) (ls' := [some (.ref r0), some (.ref r1), some (.ref r2), some (.int x3)]) (st' := [.ref r2, .int x3]) dJx4a65c_add_72be8_1 (fun _ => rfl) ?_
  obtain ⟨hK, h⟩ := h
  refine r_alen dJx4a65c_add_72be8_2 hK ?_
  obtain ⟨h1, h2⟩ := h
  refine r_icmp (t := 11) dJx4a65c_add_72be8_3 (by decide) c_ne (fun c => ?_) (fun c => ?_)
  · have h := h1 c
    exact h
  · have h := h2 c
    refine r_g (pc' := 7) (ls' := [some (.ref r0), some (.ref r1), some (.ref r2), some (.int x3)]) (st' := [.ref r0]) dJx4a65c_add_72be8_6 (fun _ => rfl) ?_
    obtain ⟨hK, h⟩ := h
    exact r_call (th := false) dJx4a65c_add_72be8_7 (fun _ => ex_calV rfl (by decide)) rfl (Nat.le_of_ble_eq_true rfl) (Nat.le_of_ble_eq_true rfl) (Nat.le_of_ble_eq_true rfl) (rcv0 rfl rfl (by decide) hK) rfl rfl rfl (fun q => nomatch q) h
theorem b165_10 {g : Nat → Nat} {C S : Nat} {σ : PS} {Q : Rs → PS → Prop} {r0 : Nat} {r1 : Nat} {l2 : Option Value} {x3 : Int32} {w0 : Nat}
    (h : WP g C S 165 11 [some (.ref r0), some (.ref r1), some (.ref w0), some (.int x3)] [] σ Q) :
    WP g C S 165 10 [some (.ref r0), some (.ref r1), l2, some (.int x3)] [.ref w0] σ Q := by
  refine r_g (pc' := 11) (ls' := [some (.ref r0), some (.ref r1), some (.ref w0), some (.int x3)]) (st' := []) dJx4a65c_add_72be8_10 (fun _ => rfl) ?_
  exact h
theorem b165_11 {g : Nat → Nat} {C S : Nat} {σ : PS} {Q : Rs → PS → Prop} {r0 : Nat} {r1 : Nat} {r2 : Nat} {x3 : Int32}
    (h : ∃ n1 : Nat, x3 = nI n1 ∧ n1 < 2147483648 ∧ ((zK σ r2 = 103 ∧ zK σ r1 = 7) ∨ (zK σ r2 = 104 ∧ 1 ≤ zK σ r1 ∧ zK σ r1 ≤ 9)) ∧ n1 < zL σ r2 ∧ (∀ τ2, τ2 = stP σ r2 n1 (some r1) → zK τ2 r0 = 1 ∧ (∀ τ3, τ3 = stI τ2 r0 2 (x3 + 1) → Q (Sum.inl none) τ3))) :
    WP g C S 165 11 [some (.ref r0), some (.ref r1), some (.ref r2), some (.int x3)] [] σ Q := by
  refine r_g (pc' := 12) (ls' := [some (.ref r0), some (.ref r1), some (.ref r2), some (.int x3)]) (st' := [.ref r2]) dJx4a65c_add_72be8_11 (fun _ => rfl) ?_
  refine r_g (pc' := 13) (ls' := [some (.ref r0), some (.ref r1), some (.ref r2), some (.int x3)]) (st' := [.int x3, .ref r2]) dJx4a65c_add_72be8_12 (fun _ => rfl) ?_
  refine r_g (pc' := 14) (ls' := [some (.ref r0), some (.ref r1), some (.ref r2), some (.int x3)]) (st' := [.ref r1, .int x3, .ref r2]) dJx4a65c_add_72be8_13 (fun _ => rfl) ?_
  obtain ⟨n1, hj, hn, hK, hL, h⟩ := h
  refine r_aast dJx4a65c_add_72be8_14 hj hn hK hL ?_
  generalize eτ2 : stP σ r2 n1 (some r1) = τ2
  replace h := h _ eτ2.symm
  refine r_g (pc' := 16) (ls' := [some (.ref r0), some (.ref r1), some (.ref r2), some (.int x3)]) (st' := [.ref r0]) dJx4a65c_add_72be8_15 (fun _ => rfl) ?_
  refine r_g (pc' := 17) (ls' := [some (.ref r0), some (.ref r1), some (.ref r2), some (.int x3)]) (st' := [.int x3, .ref r0]) dJx4a65c_add_72be8_16 (fun _ => rfl) ?_
  refine r_ic (v := 1) dJx4a65c_add_72be8_17 (by decide) ?_
  refine r_g (pc' := 19) (ls' := [some (.ref r0), some (.ref r1), some (.ref r2), some (.int x3)]) (st' := [.int (x3 + 1), .ref r0]) dJx4a65c_add_72be8_18 (fun _ => rfl) ?_
  obtain ⟨hK, h⟩ := h
  refine r_putI dJx4a65c_add_72be8_19 rfl (by decide) (Or.inl rfl) rfl (Or.inl rfl) hK ?_
  generalize eτ3 : stI τ2 r0 2 (x3 + 1) = τ3
  replace h := h _ eτ3.symm
  exact r_vret dJx4a65c_add_72be8_22 rfl h
theorem b166_0 {g : Nat → Nat} {C S : Nat} {σ : PS} {Q : Rs → PS → Prop} {r0 : Nat} {r1 : Nat}
    (h : zK σ r0 = 1 ∧ zK σ r0 = 1 ∧ (∀ τ1, τ1 = stI σ r0 0 ((zI σ r0 0) + 1) → zK τ1 r0 = 1 ∧ ∃ b2, zP τ1 r0 1 = some b2 ∧ (zK τ1 r0 = 1 ∧ zK τ1 r0 = 1 ∧ WP g C S 165 0 [some (.ref r0), some (.ref r1), some (.ref b2), some (.int (zI τ1 r0 2))] [] τ1 (KK g C S 166 23 [some (.ref r0), some (.ref r1)] [] Q false)))) :
    WP g C S 166 0 [some (.ref r0), some (.ref r1)] [] σ Q := by
  refine r_g (pc' := 1) (ls' := [some (.ref r0), some (.ref r1)]) (st' := [.ref r0]) dJx4a65c_add_9ea2d_0 (fun _ => rfl) ?_
  refine r_g (pc' := 2) (ls' := [some (.ref r0), some (.ref r1)]) (st' := [.ref r0, .ref r0]) dJx4a65c_add_9ea2d_1 (fun _ => rfl) ?_
  obtain ⟨hK, h⟩ := h
  refine r_getI dJx4a65c_add_9ea2d_2 rfl (by decide) rfl hK ?_
  refine r_ic (v := 1) dJx4a65c_add_9ea2d_5 (by decide) ?_
  refine r_g (pc' := 7) (ls' := [some (.ref r0), some (.ref r1)]) (st' := [.int ((zI σ r0 0) + 1), .ref r0]) dJx4a65c_add_9ea2d_6 (fun _ => rfl) ?_
  obtain ⟨hK, h⟩ := h
  refine r_putI dJx4a65c_add_9ea2d_7 rfl (by decide) (Or.inl rfl) rfl (Or.inl rfl) hK ?_
  generalize eτ1 : stI σ r0 0 ((zI σ r0 0) + 1) = τ1
  replace h := h _ eτ1.symm
  refine r_g (pc' := 11) (ls' := [some (.ref r0), some (.ref r1)]) (st' := [.ref r0]) dJx4a65c_add_9ea2d_10 (fun _ => rfl) ?_
  refine r_g (pc' := 12) (ls' := [some (.ref r0), some (.ref r1)]) (st' := [.ref r1, .ref r0]) dJx4a65c_add_9ea2d_11 (fun _ => rfl) ?_
  refine r_g (pc' := 13) (ls' := [some (.ref r0), some (.ref r1)]) (st' := [.ref r0, .ref r1, .ref r0]) dJx4a65c_add_9ea2d_12 (fun _ => rfl) ?_
  obtain ⟨hK, b2, hP, h⟩ := h
  refine r_getP dJx4a65c_add_9ea2d_13 rfl (by decide) rfl hK hP ?_
  refine r_g (pc' := 17) (ls' := [some (.ref r0), some (.ref r1)]) (st' := [.ref r0, .ref b2, .ref r1, .ref r0]) dJx4a65c_add_9ea2d_16 (fun _ => rfl) ?_
  obtain ⟨hK, h⟩ := h
  refine r_getI dJx4a65c_add_9ea2d_17 rfl (by decide) rfl hK ?_
  obtain ⟨hK, h⟩ := h
  exact r_call (th := false) dJx4a65c_add_9ea2d_20 (fun _ => ex_calV rfl (by decide)) rfl (Nat.le_of_ble_eq_true rfl) (Nat.le_of_ble_eq_true rfl) (Nat.le_of_ble_eq_true rfl) (rcv0 rfl rfl (by decide) hK) rfl rfl rfl (fun q => nomatch q) h
theorem b166_23 {g : Nat → Nat} {C S : Nat} {σ : PS} {Q : Rs → PS → Prop} {l0 : Option Value} {l1 : Option Value}
    (h : Q (Sum.inl (some (.int 1))) σ) :
    WP g C S 166 23 [l0, l1] [] σ Q := by
  refine r_ic (v := 1) dJx4a65c_add_9ea2d_23 (by decide) ?_
  exact r_ret dJx4a65c_add_9ea2d_24 rfl h
theorem b167_0 {g : Nat → Nat} {C S : Nat} {σ : PS} {Q : Rs → PS → Prop} {r0 : Nat} {x1 : Int32}
    (h : zK σ r0 = 104 ∧ WP g C S 168 0 [some (.ref r0), some (.int x1), some (.ref (g 7)), none] [] σ (KK g C S 167 9 [some (.ref r0), some (.int x1)] [] Q false)) :
    WP g C S 167 0 [some (.ref r0), some (.int x1)] [] σ Q := by
  refine r_g (pc' := 1) (ls' := [some (.ref r0), some (.int x1)]) (st' := [.ref r0]) dJ7_copyOf_1904c_0 (fun _ => rfl) ?_
  refine r_g (pc' := 2) (ls' := [some (.ref r0), some (.int x1)]) (st' := [.int x1, .ref r0]) dJ7_copyOf_1904c_1 (fun _ => rfl) ?_
  refine r_g (pc' := 3) (ls' := [some (.ref r0), some (.int x1)]) (st' := [.ref r0, .int x1, .ref r0]) dJ7_copyOf_1904c_2 (fun _ => rfl) ?_
  obtain ⟨hK, h⟩ := h
  refine r_getC dJ7_copyOf_1904c_3 rfl ⟨Nat.le_of_ble_eq_true rfl, Nat.le_of_ble_eq_true rfl, Nat.le_of_ble_eq_true rfl⟩ hK ?_
  exact r_call (th := false) dJ7_copyOf_1904c_6 (fun _ => ex_calS rfl (by decide)) rfl (Nat.le_of_ble_eq_true rfl) (Nat.le_of_ble_eq_true rfl) (Nat.le_of_ble_eq_true rfl) rfl rfl rfl rfl (fun q => nomatch q) h
theorem b167_9 {g : Nat → Nat} {C S : Nat} {σ : PS} {Q : Rs → PS → Prop} {l0 : Option Value} {l1 : Option Value} {w0 : Nat}
    (h : Q (Sum.inl (some (.ref w0))) σ) :
    WP g C S 167 9 [l0, l1] [.ref w0] σ Q := by
  exact r_aret dJ7_copyOf_1904c_9 rfl h
theorem b168_0 {g : Nat → Nat} {C S : Nat} {σ : PS} {Q : Rs → PS → Prop} {r0 : Nat} {x1 : Int32} {r2 : Nat} {l3 : Option Value}
    (h : (¬ (r2 = g 7) → False) ∧ (r2 = g 7 → ∃ n1 : Nat, x1 = nI n1 ∧ n1 ≤ 100000 ∧ zN σ + 1 ≤ C ∧ zS σ + n1 ≤ S ∧ (∀ τ2, τ2 = alA σ 104 n1 → ((101 ≤ zK τ2 r0 ∧ zK τ2 r0 ≤ 104) ∨ zK τ2 r0 = 1001 ∨ zK τ2 r0 = 1003) ∧ ∃ n3 n4 n5 : Nat, (if (x1 : Int32) < (nI (zL τ2 r0)) then x1 else nI (zL τ2 r0)) = nI n3 ∧ 0 = nI n4 ∧ 0 = nI n5 ∧ n5 + n3 ≤ zL τ2 r0 ∧ n4 + n3 ≤ zL τ2 (zN σ) ∧ (zL τ2 r0 < 2147483648 ∧ zL τ2 (zN σ) < 2147483648) ∧ (¬ r0 = zN σ) ∧ zK τ2 r0 = 104 ∧ zK τ2 (zN σ) = 104 ∧ (∀ i, i < n3 → okP τ2 (zP τ2 r0 (n5 + i)) = true) ∧ (∀ τ6, τ6 = cpP τ2 r0 n5 (zN σ) n4 n3 → Q (Sum.inl (some (.ref (zN σ)))) τ6)))) :
    WP g C S 168 0 [some (.ref r0), some (.int x1), some (.ref r2), l3] [] σ Q := by
  refine r_g (pc' := 1) (ls' := [some (.ref r0), some (.int x1), some (.ref r2), l3]) (st' := [.ref r2]) dJ7_copyOf_6403c_0 (fun _ => rfl) ?_
  refine r_g (pc' := 3) (ls' := [some (.ref r0), some (.int x1), some (.ref r2), l3]) (st' := [.ref (g 7), .ref r2]) dJ7_copyOf_6403c_1 (fun _ => rfl) ?_
  obtain ⟨h1, h2⟩ := h
  refine r_ane (t := 13) dJ7_copyOf_6403c_3 (by decide) (fun c => ?_) (fun c => ?_)
  · have h := h1 c
    refine r_g (pc' := 14) (ls' := [some (.ref r0), some (.int x1), some (.ref r2), l3]) (st' := [.ref r2]) dJ7_copyOf_6403c_13 (fun _ => rfl) ?_
    exact absurd h id
  · have h := h2 c
    refine r_g (pc' := 7) (ls' := [some (.ref r0), some (.int x1), some (.ref r2), l3]) (st' := [.int x1]) dJ7_copyOf_6403c_6 (fun _ => rfl) ?_
    obtain ⟨n1, hj, hn, hC, hS, h⟩ := h
    refine r_anew (κ := 104) dJ7_copyOf_6403c_7 rfl (Or.inr rfl) rfl hj hn hC hS ?_
    generalize eτ2 : alA σ 104 n1 = τ2
    replace h := h _ eτ2.symm
    refine r_goto (t := 24) dJ7_copyOf_6403c_10 (by decide) ?_
    refine r_g (pc' := 25) (ls' := [some (.ref r0), some (.int x1), some (.ref r2), some (.ref (zN σ))]) (st' := []) dJ7_copyOf_6403c_24 (fun _ => rfl) ?_
    refine r_g (pc' := 26) (ls' := [some (.ref r0), some (.int x1), some (.ref r2), some (.ref (zN σ))]) (st' := [.ref r0]) dJ7_copyOf_6403c_25 (fun _ => rfl) ?_
    refine r_ic (v := 0) dJ7_copyOf_6403c_26 (by decide) ?_
    refine r_g (pc' := 28) (ls' := [some (.ref r0), some (.int x1), some (.ref r2), some (.ref (zN σ))]) (st' := [.ref (zN σ), .int 0, .ref r0]) dJ7_copyOf_6403c_27 (fun _ => rfl) ?_
    refine r_ic (v := 0) dJ7_copyOf_6403c_28 (by decide) ?_
    refine r_g (pc' := 30) (ls' := [some (.ref r0), some (.int x1), some (.ref r2), some (.ref (zN σ))]) (st' := [.ref r0, .int 0, .ref (zN σ), .int 0, .ref r0]) dJ7_copyOf_6403c_29 (fun _ => rfl) ?_
    obtain ⟨hK, h⟩ := h
    refine r_alen dJ7_copyOf_6403c_30 hK ?_
    refine r_g (pc' := 32) (ls' := [some (.ref r0), some (.int x1), some (.ref r2), some (.ref (zN σ))]) (st' := [.int x1, .int (nI (zL τ2 r0)), .int 0, .ref (zN σ), .int 0, .ref r0]) dJ7_copyOf_6403c_31 (fun _ => rfl) ?_
    refine r_min dJ7_copyOf_6403c_32 rfl ⟨Nat.le_of_ble_eq_true rfl, Nat.le_of_ble_eq_true rfl, Nat.le_of_ble_eq_true rfl⟩ ?_
    obtain ⟨n3, n4, n5, e1, e2, e3, e4, e5, e6, e7, ka, kb, hn, h⟩ := h
    refine r_copP dJ7_copyOf_6403c_35 rfl ⟨Nat.le_of_ble_eq_true rfl, Nat.le_of_ble_eq_true rfl, Nat.le_of_ble_eq_true rfl⟩ e1 e2 e3 e4 e5 e6 e7 ka kb hn ?_
    generalize eτ6 : cpP τ2 r0 n5 (zN σ) n4 n3 = τ6
    replace h := h _ eτ6.symm
    refine r_g (pc' := 39) (ls' := [some (.ref r0), some (.int x1), some (.ref r2), some (.ref (zN σ))]) (st' := [.ref (zN σ)]) dJ7_copyOf_6403c_38 (fun _ => rfl) ?_
    exact r_aret dJ7_copyOf_6403c_39 rfl h
theorem b169_0 {g : Nat → Nat} {C S : Nat} {σ : PS} {Q : Rs → PS → Prop} {x0 : Int32} {x1 : Int32}
    (h : WP g C S 171 0 [some (.int x0), some (.int x1), some .null] [] σ (KK g C S 169 6 [some (.int x0), some (.int x1)] [] Q false)) :
    WP g C S 169 0 [some (.int x0), some (.int x1)] [] σ Q := by
  refine r_g (pc' := 1) (ls' := [some (.int x0), some (.int x1)]) (st' := [.int x0]) dJ15_checkIndex_7cf53_0 (fun _ => rfl) ?_
  refine r_g (pc' := 2) (ls' := [some (.int x0), some (.int x1)]) (st' := [.int x1, .int x0]) dJ15_checkIndex_7cf53_1 (fun _ => rfl) ?_
  refine r_g (pc' := 3) (ls' := [some (.int x0), some (.int x1)]) (st' := [.null, .int x1, .int x0]) dJ15_checkIndex_7cf53_2 (fun _ => rfl) ?_
  exact r_call (th := false) dJ15_checkIndex_7cf53_3 (fun _ => ex_calS rfl (by decide)) rfl (Nat.le_of_ble_eq_true rfl) (Nat.le_of_ble_eq_true rfl) (Nat.le_of_ble_eq_true rfl) rfl rfl rfl rfl (fun q => nomatch q) h
theorem b169_6 {g : Nat → Nat} {C S : Nat} {σ : PS} {Q : Rs → PS → Prop} {l0 : Option Value} {l1 : Option Value} {u0 : Int32}
    (h : Q (Sum.inl (some (.int u0))) σ) :
    WP g C S 169 6 [l0, l1] [.int u0] σ Q := by
  exact r_ret dJ15_checkIndex_7cf53_6 rfl h
theorem b170_0 {g : Nat → Nat} {C S : Nat} {σ : PS} {Q : Rs → PS → Prop} {x0 : Int32} {x1 : Int32} {x2 : Int32} {l3 : Option Value}
    (h : ((x0 + (if (x1 : Int32) < x2 then x2 else x1) : Int32) ≤ 0 → WP g C S 170 21 [some (.int x0), some (.int x1), some (.int x2), some (.int (x0 + (if (x1 : Int32) < x2 then x2 else x1)))] [] σ Q) ∧ (¬ ((x0 + (if (x1 : Int32) < x2 then x2 else x1) : Int32) ≤ 0) → ((2147483639 : Int32) < (x0 + (if (x1 : Int32) < x2 then x2 else x1)) → WP g C S 170 21 [some (.int x0), some (.int x1), some (.int x2), some (.int (x0 + (if (x1 : Int32) < x2 then x2 else x1)))] [] σ Q) ∧ (¬ ((2147483639 : Int32) < (x0 + (if (x1 : Int32) < x2 then x2 else x1))) → Q (Sum.inl (some (.int (x0 + (if (x1 : Int32) < x2 then x2 else x1))))) σ))) :
    WP g C S 170 0 [some (.int x0), some (.int x1), some (.int x2), l3] [] σ Q := by
  refine r_g (pc' := 1) (ls' := [some (.int x0), some (.int x1), some (.int x2), l3]) (st' := [.int x0]) dJ8_newLength_cabcc_0 (fun _ => rfl) ?_
  refine r_g (pc' := 2) (ls' := [some (.int x0), some (.int x1), some (.int x2), l3]) (st' := [.int x1, .int x0]) dJ8_newLength_cabcc_1 (fun _ => rfl) ?_
  refine r_g (pc' := 3) (ls' := [some (.int x0), some (.int x1), some (.int x2), l3]) (st' := [.int x2, .int x1, .int x0]) dJ8_newLength_cabcc_2 (fun _ => rfl) ?_
  refine r_max dJ8_newLength_cabcc_3 rfl ⟨Nat.le_of_ble_eq_true rfl, Nat.le_of_ble_eq_true rfl, Nat.le_of_ble_eq_true rfl⟩ ?_
  refine r_g (pc' := 7) (ls' := [some (.int x0), some (.int x1), some (.int x2), l3]) (st' := [.int (x0 + (if (x1 : Int32) < x2 then x2 else x1))]) dJ8_newLength_cabcc_6 (fun _ => rfl) ?_
  refine r_g (pc' := 8) (ls' := [some (.int x0), some (.int x1), some (.int x2), some (.int (x0 + (if (x1 : Int32) < x2 then x2 else x1)))]) (st' := []) dJ8_newLength_cabcc_7 (fun _ => rfl) ?_
  refine r_ic (v := 0) dJ8_newLength_cabcc_8 (by decide) ?_
  refine r_g (pc' := 10) (ls' := [some (.int x0), some (.int x1), some (.int x2), some (.int (x0 + (if (x1 : Int32) < x2 then x2 else x1)))]) (st' := [.int (x0 + (if (x1 : Int32) < x2 then x2 else x1)), .int 0]) dJ8_newLength_cabcc_9 (fun _ => rfl) ?_
  obtain ⟨h1, h2⟩ := h
  refine r_icmp (t := 21) dJ8_newLength_cabcc_10 (by decide) c_ge (fun c => ?_) (fun c => ?_)
  · have h := h1 c
    exact h
  · have h := h2 c
    refine r_g (pc' := 14) (ls' := [some (.int x0), some (.int x1), some (.int x2), some (.int (x0 + (if (x1 : Int32) < x2 then x2 else x1)))]) (st' := [.int (x0 + (if (x1 : Int32) < x2 then x2 else x1))]) dJ8_newLength_cabcc_13 (fun _ => rfl) ?_
    refine r_g (pc' := 16) (ls' := [some (.int x0), some (.int x1), some (.int x2), some (.int (x0 + (if (x1 : Int32) < x2 then x2 else x1)))]) (st' := [.int 2147483639, .int (x0 + (if (x1 : Int32) < x2 then x2 else x1))]) dJ8_newLength_cabcc_14 (fun _ => rfl) ?_
    obtain ⟨h1, h2⟩ := h
    refine r_icmp (t := 21) dJ8_newLength_cabcc_16 (by decide) c_gt (fun c => ?_) (fun c => ?_)
    · have h := h1 c
      exact h
    · have h := h2 c
      refine r_g (pc' := 20) (ls' := [some (.int x0), some (.int x1), some (.int x2), some (.int (x0 + (if (x1 : Int32) < x2 then x2 else x1)))]) (st' := [.int (x0 + (if (x1 : Int32) < x2 then x2 else x1))]) dJ8_newLength_cabcc_19 (fun _ => rfl) ?_
      exact r_ret dJ8_newLength_cabcc_20 rfl h
theorem b170_21 {g : Nat → Nat} {C S : Nat} {σ : PS} {Q : Rs → PS → Prop} {x0 : Int32} {x1 : Int32} {l2 : Option Value} {l3 : Option Value}
    (h : False) :
    WP g C S 170 21 [some (.int x0), some (.int x1), l2, l3] [] σ Q := by
  refine r_g (pc' := 22) (ls' := [some (.int x0), some (.int x1), l2, l3]) (st' := [.int x0]) dJ8_newLength_cabcc_21 (fun _ => rfl) ?_
  refine r_g (pc' := 23) (ls' := [some (.int x0), some (.int x1), l2, l3]) (st' := [.int x1, .int x0]) dJ8_newLength_cabcc_22 (fun _ => rfl) ?_
  exact absurd h id
theorem b171_0 {g : Nat → Nat} {C S : Nat} {σ : PS} {Q : Rs → PS → Prop} {x0 : Int32} {x1 : Int32} {r2 : Nat}
    (h : ((x0 : Int32) < 0 → WP g C S 171 9 [some (.int x0), some (.int x1), some (.ref r2)] [] σ Q) ∧ (¬ ((x0 : Int32) < 0) → ((x0 : Int32) < x1 → Q (Sum.inl (some (.int x0))) σ) ∧ (¬ ((x0 : Int32) < x1) → WP g C S 171 9 [some (.int x0), some (.int x1), some (.ref r2)] [] σ Q))) :
    WP g C S 171 0 [some (.int x0), some (.int x1), some (.ref r2)] [] σ Q := by
  refine r_g (pc' := 1) (ls' := [some (.int x0), some (.int x1), some (.ref r2)]) (st' := [.int x0]) dJ3_checkIndex_8e157_0 (fun _ => rfl) ?_
  obtain ⟨h1, h2⟩ := h
  refine r_if (t := 9) dJ3_checkIndex_8e157_1 (by decide) c_lt (fun c => ?_) (fun c => ?_)
  · have h := h1 c
    exact h
  · have h := h2 c
    refine r_g (pc' := 5) (ls' := [some (.int x0), some (.int x1), some (.ref r2)]) (st' := [.int x0]) dJ3_checkIndex_8e157_4 (fun _ => rfl) ?_
    refine r_g (pc' := 6) (ls' := [some (.int x0), some (.int x1), some (.ref r2)]) (st' := [.int x1, .int x0]) dJ3_checkIndex_8e157_5 (fun _ => rfl) ?_
    obtain ⟨h1, h2⟩ := h
    refine r_icmp (t := 16) dJ3_checkIndex_8e157_6 (by decide) c_lt (fun c => ?_) (fun c => ?_)
    · have h := h1 c
      refine r_g (pc' := 17) (ls' := [some (.int x0), some (.int x1), some (.ref r2)]) (st' := [.int x0]) dJ3_checkIndex_8e157_16 (fun _ => rfl) ?_
      exact r_ret dJ3_checkIndex_8e157_17 rfl h
    · have h := h2 c
      exact h
theorem b171_9 {g : Nat → Nat} {C S : Nat} {σ : PS} {Q : Rs → PS → Prop} {x0 : Int32} {x1 : Int32} {r2 : Nat}
    (h : False) :
    WP g C S 171 9 [some (.int x0), some (.int x1), some (.ref r2)] [] σ Q := by
  refine r_g (pc' := 10) (ls' := [some (.int x0), some (.int x1), some (.ref r2)]) (st' := [.ref r2]) dJ3_checkIndex_8e157_9 (fun _ => rfl) ?_
  refine r_g (pc' := 11) (ls' := [some (.int x0), some (.int x1), some (.ref r2)]) (st' := [.int x0, .ref r2]) dJ3_checkIndex_8e157_10 (fun _ => rfl) ?_
  refine r_g (pc' := 12) (ls' := [some (.int x0), some (.int x1), some (.ref r2)]) (st' := [.int x1, .int x0, .ref r2]) dJ3_checkIndex_8e157_11 (fun _ => rfl) ?_
  exact absurd h id
