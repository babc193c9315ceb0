theorem b116_0 {g : Nat → Nat} {C S : Nat} {σ : PS} {Q : Rs → PS → Prop} {r0 : Nat} {x1 : Int32} {x2 : Int32} {x3 : Int32} {l4 : Option Value} {l5 : Option Value}
    (h : WP g C S 116 9 [some (.ref r0), some (.int x1), some (.int x2), some (.int x3), some (.int 0), some (.int (64 * x1))] [] σ Q) :
    WP g C S 116 0 [some (.ref r0), some (.int x1), some (.int x2), some (.int x3), l4, l5] [] σ Q := by
  refine r_ic (v := 0) dX7_has_0 (by decide) ?_
  refine r_g (pc' := 3) (ls' := [some (.ref r0), some (.int x1), some (.int x2), some (.int x3), some (.int 0), l5]) (st' := []) dX7_has_1 (fun _ => rfl) ?_
  refine r_bi (v := 64) dX7_has_3 (by decide) ?_
  refine r_g (pc' := 6) (ls' := [some (.ref r0), some (.int x1), some (.int x2), some (.int x3), some (.int 0), l5]) (st' := [.int x1, .int 64]) dX7_has_5 (fun _ => rfl) ?_
  refine r_g (pc' := 7) (ls' := [some (.ref r0), some (.int x1), some (.int x2), some (.int x3), some (.int 0), l5]) (st' := [.int (64 * x1)]) dX7_has_6 (fun _ => rfl) ?_
  refine r_g (pc' := 9) (ls' := [some (.ref r0), some (.int x1), some (.int x2), some (.int x3), some (.int 0), some (.int (64 * x1))]) (st' := []) dX7_has_7 (fun _ => rfl) ?_
  exact h
theorem b116_9 {g : Nat → Nat} {C S : Nat} {σ : PS} {Q : Rs → PS → Prop} {r0 : Nat} {x1 : Int32} {x2 : Int32} {x3 : Int32} {x4 : Int32} {x5 : Int32}
    (h : zK σ r0 = 9 ∧ ∃ b1, zP σ r0 14 = some b1 ∧ (∃ n2 : Nat, x1 = nI n2 ∧ n2 < 2147483648 ∧ (zK σ b1 = 101 ∨ zK σ b1 = 1002) ∧ n2 < zL σ b1 ∧ ((((64 * x1) + (zI σ b1 n2) : Int32) ≤ x5 → ((x4 : Int32) = 0 ∨ x4 = 1) ∧ Q (Sum.inl (some (.int x4))) σ) ∧ (¬ (((64 * x1) + (zI σ b1 n2) : Int32) ≤ x5) → (¬ (x4 : Int32) = 0 → WP g C S 116 52 [some (.ref r0), some (.int x1), some (.int x2), some (.int x3), some (.int x4), some (.int x5)] [] σ Q) ∧ (¬ (¬ (x4 : Int32) = 0) → zK σ r0 = 9 ∧ ∃ b3, zP σ r0 17 = some b3 ∧ (∃ n4 : Nat, x5 = nI n4 ∧ n4 < 2147483648 ∧ (zK σ b3 = 101 ∨ zK σ b3 = 1002) ∧ n4 < zL σ b3 ∧ ((¬ (zI σ b3 n4 : Int32) = x2 → WP g C S 116 56 [some (.ref r0), some (.int x1), some (.int x2), some (.int x3), some (.int x4), some (.int x5)] [] σ Q) ∧ (¬ (¬ (zI σ b3 n4 : Int32) = x2) → zK σ r0 = 9 ∧ ∃ b5, zP σ r0 18 = some b5 ∧ (∃ n6 : Nat, x5 = nI n6 ∧ n6 < 2147483648 ∧ (zK σ b5 = 101 ∨ zK σ b5 = 1002) ∧ n6 < zL σ b5 ∧ ((¬ (zI σ b5 n6 : Int32) = x3 → WP g C S 116 56 [some (.ref r0), some (.int x1), some (.int x2), some (.int x3), some (.int x4), some (.int x5)] [] σ Q) ∧ (¬ (¬ (zI σ b5 n6 : Int32) = x3) → WP g C S 116 52 [some (.ref r0), some (.int x1), some (.int x2), some (.int x3), some (.int x4), some (.int x5)] [] σ Q))))))))))) :
    WP g C S 116 9 [some (.ref r0), some (.int x1), some (.int x2), some (.int x3), some (.int x4), some (.int x5)] [] σ Q := by
  refine r_g (pc' := 11) (ls' := [some (.ref r0), some (.int x1), some (.int x2), some (.int x3), some (.int x4), some (.int x5)]) (st' := [.int x5]) dX7_has_9 (fun _ => rfl) ?_
  refine r_bi (v := 64) dX7_has_11 (by decide) ?_
  refine r_g (pc' := 14) (ls' := [some (.ref r0), some (.int x1), some (.int x2), some (.int x3), some (.int x4), some (.int x5)]) (st' := [.int x1, .int 64, .int x5]) dX7_has_13 (fun _ => rfl) ?_
  refine r_g (pc' := 15) (ls' := [some (.ref r0), some (.int x1), some (.int x2), some (.int x3), some (.int x4), some (.int x5)]) (st' := [.int (64 * x1), .int x5]) dX7_has_14 (fun _ => rfl) ?_
  refine r_g (pc' := 16) (ls' := [some (.ref r0), some (.int x1), some (.int x2), some (.int x3), some (.int x4), some (.int x5)]) (st' := [.ref r0, .int (64 * x1), .int x5]) dX7_has_15 (fun _ => rfl) ?_
  obtain ⟨hK, b1, hP, h⟩ := h
  refine r_getP dX7_has_16 rfl (by decide) rfl hK hP ?_
  refine r_g (pc' := 20) (ls' := [some (.ref r0), some (.int x1), some (.int x2), some (.int x3), some (.int x4), some (.int x5)]) (st' := [.int x1, .ref b1, .int (64 * x1), .int x5]) dX7_has_19 (fun _ => rfl) ?_
  obtain ⟨n2, hj, hn, hK, hL, h⟩ := h
  refine r_iald dX7_has_20 hj hn hK hL ?_
  refine r_g (pc' := 22) (ls' := [some (.ref r0), some (.int x1), some (.int x2), some (.int x3), some (.int x4), some (.int x5)]) (st' := [.int ((64 * x1) + (zI σ b1 n2)), .int x5]) dX7_has_21 (fun _ => rfl) ?_
  obtain ⟨h1, h2⟩ := h
  refine r_icmp (t := 65) dX7_has_22 (by decide) c_ge (fun c => ?_) (fun c => ?_)
  · have h := h1 c
    refine r_g (pc' := 67) (ls' := [some (.ref r0), some (.int x1), some (.int x2), some (.int x3), some (.int x4), some (.int x5)]) (st' := [.int x4]) dX7_has_65 (fun _ => rfl) ?_
    obtain ⟨hn, h⟩ := h
    exact r_ret dX7_has_67 (by rcases hn with q | q <;> rw [q] <;> rfl) h
  · have h := h2 c
    refine r_g (pc' := 27) (ls' := [some (.ref r0), some (.int x1), some (.int x2), some (.int x3), some (.int x4), some (.int x5)]) (st' := [.int x4]) dX7_has_25 (fun _ => rfl) ?_
    obtain ⟨h1, h2⟩ := h
    refine r_if (t := 52) dX7_has_27 (by decide) c_ne (fun c => ?_) (fun c => ?_)
    · have h := h1 c
      exact h
    · have h := h2 c
      refine r_g (pc' := 31) (ls' := [some (.ref r0), some (.int x1), some (.int x2), some (.int x3), some (.int x4), some (.int x5)]) (st' := [.ref r0]) dX7_has_30 (fun _ => rfl) ?_
      obtain ⟨hK, b3, hP, h⟩ := h
      refine r_getP dX7_has_31 rfl (by decide) rfl hK hP ?_
      refine r_g (pc' := 36) (ls' := [some (.ref r0), some (.int x1), some (.int x2), some (.int x3), some (.int x4), some (.int x5)]) (st' := [.int x5, .ref b3]) dX7_has_34 (fun _ => rfl) ?_
      obtain ⟨n4, hj, hn, hK, hL, h⟩ := h
      refine r_iald dX7_has_36 hj hn hK hL ?_
      refine r_g (pc' := 38) (ls' := [some (.ref r0), some (.int x1), some (.int x2), some (.int x3), some (.int x4), some (.int x5)]) (st' := [.int x2, .int (zI σ b3 n4)]) dX7_has_37 (fun _ => rfl) ?_
      obtain ⟨h1, h2⟩ := h
      refine r_icmp (t := 56) dX7_has_38 (by decide) c_ne (fun c => ?_) (fun c => ?_)
      · have h := h1 c
        exact h
      · have h := h2 c
        refine r_g (pc' := 42) (ls' := [some (.ref r0), some (.int x1), some (.int x2), some (.int x3), some (.int x4), some (.int x5)]) (st' := [.ref r0]) dX7_has_41 (fun _ => rfl) ?_
        obtain ⟨hK, b5, hP, h⟩ := h
        refine r_getP dX7_has_42 rfl (by decide) rfl hK hP ?_
        refine r_g (pc' := 47) (ls' := [some (.ref r0), some (.int x1), some (.int x2), some (.int x3), some (.int x4), some (.int x5)]) (st' := [.int x5, .ref b5]) dX7_has_45 (fun _ => rfl) ?_
        obtain ⟨n6, hj, hn, hK, hL, h⟩ := h
        refine r_iald dX7_has_47 hj hn hK hL ?_
        refine r_g (pc' := 49) (ls' := [some (.ref r0), some (.int x1), some (.int x2), some (.int x3), some (.int x4), some (.int x5)]) (st' := [.int x3, .int (zI σ b5 n6)]) dX7_has_48 (fun _ => rfl) ?_
        obtain ⟨h1, h2⟩ := h
        refine r_icmp (t := 56) dX7_has_49 (by decide) c_ne (fun c => ?_) (fun c => ?_)
        · have h := h1 c
          exact h
        · have h := h2 c
          exact h
theorem b116_52 {g : Nat → Nat} {C S : Nat} {σ : PS} {Q : Rs → PS → Prop} {r0 : Nat} {x1 : Int32} {x2 : Int32} {x3 : Int32} {l4 : Option Value} {x5 : Int32}
    (h : WP g C S 116 57 [some (.ref r0), some (.int x1), some (.int x2), some (.int x3), l4, some (.int x5)] [.int 1] σ Q) :
    WP g C S 116 52 [some (.ref r0), some (.int x1), some (.int x2), some (.int x3), l4, some (.int x5)] [] σ Q := by
  refine r_ic (v := 1) dX7_has_52 (by decide) ?_
  refine r_goto (t := 57) dX7_has_53 (by decide) ?_
  exact h
theorem b116_56 {g : Nat → Nat} {C S : Nat} {σ : PS} {Q : Rs → PS → Prop} {r0 : Nat} {x1 : Int32} {x2 : Int32} {x3 : Int32} {l4 : Option Value} {x5 : Int32}
    (h : WP g C S 116 57 [some (.ref r0), some (.int x1), some (.int x2), some (.int x3), l4, some (.int x5)] [.int 0] σ Q) :
    WP g C S 116 56 [some (.ref r0), some (.int x1), some (.int x2), some (.int x3), l4, some (.int x5)] [] σ Q := by
  refine r_ic (v := 0) dX7_has_56 (by decide) ?_
  exact h
theorem b116_57 {g : Nat → Nat} {C S : Nat} {σ : PS} {Q : Rs → PS → Prop} {r0 : Nat} {x1 : Int32} {x2 : Int32} {x3 : Int32} {l4 : Option Value} {x5 : Int32} {u0 : Int32}
    (h : WP g C S 116 9 [some (.ref r0), some (.int x1), some (.int x2), some (.int x3), some (.int u0), some (.int (x5 + 1))] [] σ Q) :
    WP g C S 116 57 [some (.ref r0), some (.int x1), some (.int x2), some (.int x3), l4, some (.int x5)] [.int u0] σ Q := by
  refine r_g (pc' := 59) (ls' := [some (.ref r0), some (.int x1), some (.int x2), some (.int x3), some (.int u0), some (.int x5)]) (st' := []) dX7_has_57 (fun _ => rfl) ?_
  refine r_inc (v := 1) (ls' := [some (.ref r0), some (.int x1), some (.int x2), some (.int x3), some (.int u0), some (.int (x5 + 1))]) dX7_has_59 rfl (Nat.le_of_ble_eq_true rfl) (by decide) rfl ?_
  refine r_goto (t := 9) dX7_has_62 (by decide) ?_
  exact h
theorem b117_0 {g : Nat → Nat} {C S : Nat} {σ : PS} {Q : Rs → PS → Prop} {r0 : Nat} {x1 : Int32} {x2 : Int32}
    (h : zK σ r0 = 9 ∧ WP g C S 115 0 [some (.ref r0), some (.int x1), some (.int x2), some (.int 1), some (.int 1000), none, none, none, none] [] σ (KK g C S 117 10 [some (.ref r0), some (.int x1), some (.int x2)] [] Q false)) :
    WP g C S 117 0 [some (.ref r0), some (.int x1), some (.int x2)] [] σ Q := by
  refine r_g (pc' := 1) (ls' := [some (.ref r0), some (.int x1), some (.int x2)]) (st' := [.ref r0]) dX7_putName_0 (fun _ => rfl) ?_
  refine r_g (pc' := 2) (ls' := [some (.ref r0), some (.int x1), some (.int x2)]) (st' := [.int x1, .ref r0]) dX7_putName_1 (fun _ => rfl) ?_
  refine r_g (pc' := 3) (ls' := [some (.ref r0), some (.int x1), some (.int x2)]) (st' := [.int x2, .int x1, .ref r0]) dX7_putName_2 (fun _ => rfl) ?_
  refine r_ic (v := 1) dX7_putName_3 (by decide) ?_
  refine r_si (v := 1000) dX7_putName_4 (by decide) ?_
  obtain ⟨hK, h⟩ := h
  exact r_call (th := false) dX7_putName_7 (fun _ => ex_calV rfl (by decide)) rfl (Nat.le_of_ble_eq_true rfl) (Nat.le_of_ble_eq_true rfl) (Nat.le_of_ble_eq_true rfl) (rcv0 rfl rfl (by decide) hK) rfl rfl rfl (fun q => nomatch q) h
theorem b117_10 {g : Nat → Nat} {C S : Nat} {σ : PS} {Q : Rs → PS → Prop} {r0 : Nat} {x1 : Int32} {x2 : Int32}
    (h : zK σ r0 = 9 ∧ WP g C S 116 0 [some (.ref r0), some (.int x1), some (.int x2), some (.int 1), none, none] [] σ (KK g C S 117 17 [some (.ref r0), some (.int x1), some (.int x2)] [] Q false)) :
    WP g C S 117 10 [some (.ref r0), some (.int x1), some (.int x2)] [] σ Q := by
  refine r_g (pc' := 11) (ls' := [some (.ref r0), some (.int x1), some (.int x2)]) (st' := [.ref r0]) dX7_putName_10 (fun _ => rfl) ?_
  refine r_g (pc' := 12) (ls' := [some (.ref r0), some (.int x1), some (.int x2)]) (st' := [.int x1, .ref r0]) dX7_putName_11 (fun _ => rfl) ?_
  refine r_g (pc' := 13) (ls' := [some (.ref r0), some (.int x1), some (.int x2)]) (st' := [.int x2, .int x1, .ref r0]) dX7_putName_12 (fun _ => rfl) ?_
  refine r_ic (v := 1) dX7_putName_13 (by decide) ?_
  obtain ⟨hK, h⟩ := h
  exact r_call (th := false) dX7_putName_14 (fun _ => ex_calV rfl (by decide)) rfl (Nat.le_of_ble_eq_true rfl) (Nat.le_of_ble_eq_true rfl) (Nat.le_of_ble_eq_true rfl) (rcv0 rfl rfl (by decide) hK) rfl rfl rfl (fun q => nomatch q) h
theorem b117_17 {g : Nat → Nat} {C S : Nat} {σ : PS} {Q : Rs → PS → Prop} {r0 : Nat} {x1 : Int32} {x2 : Int32} {u0 : Int32}
    (h : ((u0 : Int32) = 0 → WP g C S 117 36 [some (.ref r0), some (.int x1), some (.int x2)] [] σ Q) ∧ (¬ ((u0 : Int32) = 0) → zK σ r0 = 9 ∧ WP g C S 116 0 [some (.ref r0), some (.int x1), some (.int x2), some (.int 2), none, none] [] σ (KK g C S 117 27 [some (.ref r0), some (.int x1), some (.int x2)] [] Q false))) :
    WP g C S 117 17 [some (.ref r0), some (.int x1), some (.int x2)] [.int u0] σ Q := by
  obtain ⟨h1, h2⟩ := h
  refine r_if (t := 36) dX7_putName_17 (by decide) c_eq (fun c => ?_) (fun c => ?_)
  · have h := h1 c
    exact h
  · have h := h2 c
    refine r_g (pc' := 21) (ls' := [some (.ref r0), some (.int x1), some (.int x2)]) (st' := [.ref r0]) dX7_putName_20 (fun _ => rfl) ?_
    refine r_g (pc' := 22) (ls' := [some (.ref r0), some (.int x1), some (.int x2)]) (st' := [.int x1, .ref r0]) dX7_putName_21 (fun _ => rfl) ?_
    refine r_g (pc' := 23) (ls' := [some (.ref r0), some (.int x1), some (.int x2)]) (st' := [.int x2, .int x1, .ref r0]) dX7_putName_22 (fun _ => rfl) ?_
    refine r_ic (v := 2) dX7_putName_23 (by decide) ?_
    obtain ⟨hK, h⟩ := h
    exact r_call (th := false) dX7_putName_24 (fun _ => ex_calV rfl (by decide)) rfl (Nat.le_of_ble_eq_true rfl) (Nat.le_of_ble_eq_true rfl) (Nat.le_of_ble_eq_true rfl) (rcv0 rfl rfl (by decide) hK) rfl rfl rfl (fun q => nomatch q) h
theorem b117_27 {g : Nat → Nat} {C S : Nat} {σ : PS} {Q : Rs → PS → Prop} {r0 : Nat} {x1 : Int32} {x2 : Int32} {u0 : Int32}
    (h : ((u0 : Int32) = 0 → WP g C S 117 36 [some (.ref r0), some (.int x1), some (.int x2)] [] σ Q) ∧ (¬ ((u0 : Int32) = 0) → zK σ r0 = 9 ∧ WP g C S 111 0 [some (.ref r0), some (.int 32)] [] σ (KK g C S 117 36 [some (.ref r0), some (.int x1), some (.int x2)] [] Q false))) :
    WP g C S 117 27 [some (.ref r0), some (.int x1), some (.int x2)] [.int u0] σ Q := by
  obtain ⟨h1, h2⟩ := h
  refine r_if (t := 36) dX7_putName_27 (by decide) c_eq (fun c => ?_) (fun c => ?_)
  · have h := h1 c
    exact h
  · have h := h2 c
    refine r_g (pc' := 31) (ls' := [some (.ref r0), some (.int x1), some (.int x2)]) (st' := [.ref r0]) dX7_putName_30 (fun _ => rfl) ?_
    refine r_bi (v := 32) dX7_putName_31 (by decide) ?_
    obtain ⟨hK, h⟩ := h
    exact r_call (th := false) dX7_putName_33 (fun _ => ex_calV rfl (by decide)) rfl (Nat.le_of_ble_eq_true rfl) (Nat.le_of_ble_eq_true rfl) (Nat.le_of_ble_eq_true rfl) (rcv0 rfl rfl (by decide) hK) rfl rfl rfl (fun q => nomatch q) h
theorem b117_36 {g : Nat → Nat} {C S : Nat} {σ : PS} {Q : Rs → PS → Prop} {r0 : Nat} {x1 : Int32} {x2 : Int32}
    (h : zK σ r0 = 9 ∧ WP g C S 115 0 [some (.ref r0), some (.int x1), some (.int x2), some (.int 2), some (.int 1000), none, none, none, none] [] σ (KK g C S 117 46 [some (.ref r0), some (.int x1), some (.int x2)] [] Q false)) :
    WP g C S 117 36 [some (.ref r0), some (.int x1), some (.int x2)] [] σ Q := by
  refine r_g (pc' := 37) (ls' := [some (.ref r0), some (.int x1), some (.int x2)]) (st' := [.ref r0]) dX7_putName_36 (fun _ => rfl) ?_
  refine r_g (pc' := 38) (ls' := [some (.ref r0), some (.int x1), some (.int x2)]) (st' := [.int x1, .ref r0]) dX7_putName_37 (fun _ => rfl) ?_
  refine r_g (pc' := 39) (ls' := [some (.ref r0), some (.int x1), some (.int x2)]) (st' := [.int x2, .int x1, .ref r0]) dX7_putName_38 (fun _ => rfl) ?_
  refine r_ic (v := 2) dX7_putName_39 (by decide) ?_
  refine r_si (v := 1000) dX7_putName_40 (by decide) ?_
  obtain ⟨hK, h⟩ := h
  exact r_call (th := false) dX7_putName_43 (fun _ => ex_calV rfl (by decide)) rfl (Nat.le_of_ble_eq_true rfl) (Nat.le_of_ble_eq_true rfl) (Nat.le_of_ble_eq_true rfl) (rcv0 rfl rfl (by decide) hK) rfl rfl rfl (fun q => nomatch q) h
theorem b117_46 {g : Nat → Nat} {C S : Nat} {σ : PS} {Q : Rs → PS → Prop} {l0 : Option Value} {l1 : Option Value} {l2 : Option Value}
    (h : Q (Sum.inl none) σ) :
    WP g C S 117 46 [l0, l1, l2] [] σ Q := by
  exact r_vret dX7_putName_46 rfl h
theorem b118_0 {g : Nat → Nat} {C S : Nat} {σ : PS} {Q : Rs → PS → Prop} {r0 : Nat} {x1 : Int32} {x2 : Int32} {l3 : Option Value} {l4 : Option Value}
    (h : WP g C S 118 8 [some (.ref r0), some (.int x1), some (.int x2), some (.int 0), some (.int (64 * x1))] [] σ Q) :
    WP g C S 118 0 [some (.ref r0), some (.int x1), some (.int x2), l3, l4] [] σ Q := by
  refine r_ic (v := 0) dX7_putInitials_0 (by decide) ?_
  refine r_g (pc' := 2) (ls' := [some (.ref r0), some (.int x1), some (.int x2), some (.int 0), l4]) (st' := []) dX7_putInitials_1 (fun _ => rfl) ?_
  refine r_bi (v := 64) dX7_putInitials_2 (by decide) ?_
  refine r_g (pc' := 5) (ls' := [some (.ref r0), some (.int x1), some (.int x2), some (.int 0), l4]) (st' := [.int x1, .int 64]) dX7_putInitials_4 (fun _ => rfl) ?_
  refine r_g (pc' := 6) (ls' := [some (.ref r0), some (.int x1), some (.int x2), some (.int 0), l4]) (st' := [.int (64 * x1)]) dX7_putInitials_5 (fun _ => rfl) ?_
  refine r_g (pc' := 8) (ls' := [some (.ref r0), some (.int x1), some (.int x2), some (.int 0), some (.int (64 * x1))]) (st' := []) dX7_putInitials_6 (fun _ => rfl) ?_
  exact h
theorem b118_8 {g : Nat → Nat} {C S : Nat} {σ : PS} {Q : Rs → PS → Prop} {r0 : Nat} {x1 : Int32} {x2 : Int32} {x3 : Int32} {x4 : Int32}
    (h : zK σ r0 = 9 ∧ ∃ b1, zP σ r0 14 = some b1 ∧ (∃ n2 : Nat, x1 = nI n2 ∧ n2 < 2147483648 ∧ (zK σ b1 = 101 ∨ zK σ b1 = 1002) ∧ n2 < zL σ b1 ∧ ((((64 * x1) + (zI σ b1 n2) : Int32) ≤ x4 → Q (Sum.inl none) σ) ∧ (¬ (((64 * x1) + (zI σ b1 n2) : Int32) ≤ x4) → zK σ r0 = 9 ∧ ∃ b3, zP σ r0 17 = some b3 ∧ (∃ n4 : Nat, x4 = nI n4 ∧ n4 < 2147483648 ∧ (zK σ b3 = 101 ∨ zK σ b3 = 1002) ∧ n4 < zL σ b3 ∧ ((¬ (zI σ b3 n4 : Int32) = x2 → WP g C S 118 79 [some (.ref r0), some (.int x1), some (.int x2), some (.int x3), some (.int x4)] [] σ Q) ∧ (¬ (¬ (zI σ b3 n4 : Int32) = x2) → zK σ r0 = 9 ∧ ∃ b5, zP σ r0 18 = some b5 ∧ (∃ n6 : Nat, x4 = nI n6 ∧ n6 < 2147483648 ∧ (zK σ b5 = 101 ∨ zK σ b5 = 1002) ∧ n6 < zL σ b5 ∧ ((¬ (zI σ b5 n6 : Int32) = 0 → WP g C S 118 79 [some (.ref r0), some (.int x1), some (.int x2), some (.int x3), some (.int x4)] [] σ Q) ∧ (¬ (¬ (zI σ b5 n6 : Int32) = 0) → ((x3 : Int32) = 0 → WP g C S 118 55 [some (.ref r0), some (.int x1), some (.int x2), some (.int x3), some (.int x4)] [] σ Q) ∧ (¬ ((x3 : Int32) = 0) → zK σ r0 = 9 ∧ WP g C S 111 0 [some (.ref r0), some (.int 32)] [] σ (KK g C S 118 55 [some (.ref r0), some (.int x1), some (.int x2), some (.int x3), some (.int x4)] [] Q false)))))))))))) :
    WP g C S 118 8 [some (.ref r0), some (.int x1), some (.int x2), some (.int x3), some (.int x4)] [] σ Q := by
  refine r_g (pc' := 10) (ls' := [some (.ref r0), some (.int x1), some (.int x2), some (.int x3), some (.int x4)]) (st' := [.int x4]) dX7_putInitials_8 (fun _ => rfl) ?_
  refine r_bi (v := 64) dX7_putInitials_10 (by decide) ?_
  refine r_g (pc' := 13) (ls' := [some (.ref r0), some (.int x1), some (.int x2), some (.int x3), some (.int x4)]) (st' := [.int x1, .int 64, .int x4]) dX7_putInitials_12 (fun _ => rfl) ?_
  refine r_g (pc' := 14) (ls' := [some (.ref r0), some (.int x1), some (.int x2), some (.int x3), some (.int x4)]) (st' := [.int (64 * x1), .int x4]) dX7_putInitials_13 (fun _ => rfl) ?_
  refine r_g (pc' := 15) (ls' := [some (.ref r0), some (.int x1), some (.int x2), some (.int x3), some (.int x4)]) (st' := [.ref r0, .int (64 * x1), .int x4]) dX7_putInitials_14 (fun _ => rfl) ?_
  obtain ⟨hK, b1, hP, h⟩ := h
  refine r_getP dX7_putInitials_15 rfl (by decide) rfl hK hP ?_
  refine r_g (pc' := 19) (ls' := [some (.ref r0), some (.int x1), some (.int x2), some (.int x3), some (.int x4)]) (st' := [.int x1, .ref b1, .int (64 * x1), .int x4]) dX7_putInitials_18 (fun _ => rfl) ?_
  obtain ⟨n2, hj, hn, hK, hL, h⟩ := h
  refine r_iald dX7_putInitials_19 hj hn hK hL ?_
  refine r_g (pc' := 21) (ls' := [some (.ref r0), some (.int x1), some (.int x2), some (.int x3), some (.int x4)]) (st' := [.int ((64 * x1) + (zI σ b1 n2)), .int x4]) dX7_putInitials_20 (fun _ => rfl) ?_
  obtain ⟨h1, h2⟩ := h
  refine r_icmp (t := 85) dX7_putInitials_21 (by decide) c_ge (fun c => ?_) (fun c => ?_)
  · have h := h1 c
    exact r_vret dX7_putInitials_85 rfl h
  · have h := h2 c
    refine r_g (pc' := 25) (ls' := [some (.ref r0), some (.int x1), some (.int x2), some (.int x3), some (.int x4)]) (st' := [.ref r0]) dX7_putInitials_24 (fun _ => rfl) ?_
    obtain ⟨hK, b3, hP, h⟩ := h
    refine r_getP dX7_putInitials_25 rfl (by decide) rfl hK hP ?_
    refine r_g (pc' := 30) (ls' := [some (.ref r0), some (.int x1), some (.int x2), some (.int x3), some (.int x4)]) (st' := [.int x4, .ref b3]) dX7_putInitials_28 (fun _ => rfl) ?_
    obtain ⟨n4, hj, hn, hK, hL, h⟩ := h
    refine r_iald dX7_putInitials_30 hj hn hK hL ?_
    refine r_g (pc' := 32) (ls' := [some (.ref r0), some (.int x1), some (.int x2), some (.int x3), some (.int x4)]) (st' := [.int x2, .int (zI σ b3 n4)]) dX7_putInitials_31 (fun _ => rfl) ?_
    obtain ⟨h1, h2⟩ := h
    refine r_icmp (t := 79) dX7_putInitials_32 (by decide) c_ne (fun c => ?_) (fun c => ?_)
    · have h := h1 c
      exact h
    · have h := h2 c
      refine r_g (pc' := 36) (ls' := [some (.ref r0), some (.int x1), some (.int x2), some (.int x3), some (.int x4)]) (st' := [.ref r0]) dX7_putInitials_35 (fun _ => rfl) ?_
      obtain ⟨hK, b5, hP, h⟩ := h
      refine r_getP dX7_putInitials_36 rfl (by decide) rfl hK hP ?_
      refine r_g (pc' := 41) (ls' := [some (.ref r0), some (.int x1), some (.int x2), some (.int x3), some (.int x4)]) (st' := [.int x4, .ref b5]) dX7_putInitials_39 (fun _ => rfl) ?_
      obtain ⟨n6, hj, hn, hK, hL, h⟩ := h
      refine r_iald dX7_putInitials_41 hj hn hK hL ?_
      obtain ⟨h1, h2⟩ := h
      refine r_if (t := 79) dX7_putInitials_42 (by decide) c_ne (fun c => ?_) (fun c => ?_)
      · have h := h1 c
        exact h
      · have h := h2 c
        refine r_g (pc' := 46) (ls' := [some (.ref r0), some (.int x1), some (.int x2), some (.int x3), some (.int x4)]) (st' := [.int x3]) dX7_putInitials_45 (fun _ => rfl) ?_
        obtain ⟨h1, h2⟩ := h
        refine r_if (t := 55) dX7_putInitials_46 (by decide) c_eq (fun c => ?_) (fun c => ?_)
        · have h := h1 c
          exact h
        · have h := h2 c
          refine r_g (pc' := 50) (ls' := [some (.ref r0), some (.int x1), some (.int x2), some (.int x3), some (.int x4)]) (st' := [.ref r0]) dX7_putInitials_49 (fun _ => rfl) ?_
          refine r_bi (v := 32) dX7_putInitials_50 (by decide) ?_
          obtain ⟨hK, h⟩ := h
          exact r_call (th := false) dX7_putInitials_52 (fun _ => ex_calV rfl (by decide)) rfl (Nat.le_of_ble_eq_true rfl) (Nat.le_of_ble_eq_true rfl) (Nat.le_of_ble_eq_true rfl) (rcv0 rfl rfl (by decide) hK) rfl rfl rfl (fun q => nomatch q) h
theorem b118_55 {g : Nat → Nat} {C S : Nat} {σ : PS} {Q : Rs → PS → Prop} {r0 : Nat} {x1 : Int32} {x2 : Int32} {l3 : Option Value} {x4 : Int32}
    (h : zK σ r0 = 9 ∧ ∃ b1, zP σ r0 13 = some b1 ∧ (zK σ r0 = 9 ∧ ∃ b2, zP σ r0 15 = some b2 ∧ (∃ n3 : Nat, x4 = nI n3 ∧ n3 < 2147483648 ∧ (zK σ b2 = 101 ∨ zK σ b2 = 1002) ∧ n3 < zL σ b2 ∧ (∃ n4 : Nat, zI σ b2 n3 = nI n4 ∧ n4 < 2147483648 ∧ (zK σ b1 = 101 ∨ zK σ b1 = 1002) ∧ n4 < zL σ b1 ∧ (zK σ r0 = 9 ∧ WP g C S 111 0 [some (.ref r0), some (.int (zI σ b1 n4))] [] σ (KK g C S 118 73 [some (.ref r0), some (.int x1), some (.int x2), some (.int 1), some (.int x4)] [] Q false)))))) :
    WP g C S 118 55 [some (.ref r0), some (.int x1), some (.int x2), l3, some (.int x4)] [] σ Q := by
  refine r_ic (v := 1) dX7_putInitials_55 (by decide) ?_
  refine r_g (pc' := 57) (ls' := [some (.ref r0), some (.int x1), some (.int x2), some (.int 1), some (.int x4)]) (st' := []) dX7_putInitials_56 (fun _ => rfl) ?_
  refine r_g (pc' := 58) (ls' := [some (.ref r0), some (.int x1), some (.int x2), some (.int 1), some (.int x4)]) (st' := [.ref r0]) dX7_putInitials_57 (fun _ => rfl) ?_
  refine r_g (pc' := 59) (ls' := [some (.ref r0), some (.int x1), some (.int x2), some (.int 1), some (.int x4)]) (st' := [.ref r0, .ref r0]) dX7_putInitials_58 (fun _ => rfl) ?_
  obtain ⟨hK, b1, hP, h⟩ := h
  refine r_getP dX7_putInitials_59 rfl (by decide) rfl hK hP ?_
  refine r_g (pc' := 63) (ls' := [some (.ref r0), some (.int x1), some (.int x2), some (.int 1), some (.int x4)]) (st' := [.ref r0, .ref b1, .ref r0]) dX7_putInitials_62 (fun _ => rfl) ?_
  obtain ⟨hK, b2, hP, h⟩ := h
  refine r_getP dX7_putInitials_63 rfl (by decide) rfl hK hP ?_
  refine r_g (pc' := 68) (ls' := [some (.ref r0), some (.int x1), some (.int x2), some (.int 1), some (.int x4)]) (st' := [.int x4, .ref b2, .ref b1, .ref r0]) dX7_putInitials_66 (fun _ => rfl) ?_
  obtain ⟨n3, hj, hn, hK, hL, h⟩ := h
  refine r_iald dX7_putInitials_68 hj hn hK hL ?_
  obtain ⟨n4, hj, hn, hK, hL, h⟩ := h
  refine r_iald dX7_putInitials_69 hj hn hK hL ?_
  obtain ⟨hK, h⟩ := h
  exact r_call (th := false) dX7_putInitials_70 (fun _ => ex_calV rfl (by decide)) rfl (Nat.le_of_ble_eq_true rfl) (Nat.le_of_ble_eq_true rfl) (Nat.le_of_ble_eq_true rfl) (rcv0 rfl rfl (by decide) hK) rfl rfl rfl (fun q => nomatch q) h
theorem b118_73 {g : Nat → Nat} {C S : Nat} {σ : PS} {Q : Rs → PS → Prop} {r0 : Nat} {x1 : Int32} {x2 : Int32} {x3 : Int32} {x4 : Int32}
    (h : zK σ r0 = 9 ∧ WP g C S 111 0 [some (.ref r0), some (.int 46)] [] σ (KK g C S 118 79 [some (.ref r0), some (.int x1), some (.int x2), some (.int x3), some (.int x4)] [] Q false)) :
    WP g C S 118 73 [some (.ref r0), some (.int x1), some (.int x2), some (.int x3), some (.int x4)] [] σ Q := by
  refine r_g (pc' := 74) (ls' := [some (.ref r0), some (.int x1), some (.int x2), some (.int x3), some (.int x4)]) (st' := [.ref r0]) dX7_putInitials_73 (fun _ => rfl) ?_
  refine r_bi (v := 46) dX7_putInitials_74 (by decide) ?_
  obtain ⟨hK, h⟩ := h
  exact r_call (th := false) dX7_putInitials_76 (fun _ => ex_calV rfl (by decide)) rfl (Nat.le_of_ble_eq_true rfl) (Nat.le_of_ble_eq_true rfl) (Nat.le_of_ble_eq_true rfl) (rcv0 rfl rfl (by decide) hK) rfl rfl rfl (fun q => nomatch q) h
theorem b118_79 {g : Nat → Nat} {C S : Nat} {σ : PS} {Q : Rs → PS → Prop} {r0 : Nat} {x1 : Int32} {x2 : Int32} {x3 : Int32} {x4 : Int32}
    (h : WP g C S 118 8 [some (.ref r0), some (.int x1), some (.int x2), some (.int x3), some (.int (x4 + 1))] [] σ Q) :
    WP g C S 118 79 [some (.ref r0), some (.int x1), some (.int x2), some (.int x3), some (.int x4)] [] σ Q := by
  refine r_inc (v := 1) (ls' := [some (.ref r0), some (.int x1), some (.int x2), some (.int x3), some (.int (x4 + 1))]) dX7_putInitials_79 rfl (Nat.le_of_ble_eq_true rfl) (by decide) rfl ?_
  refine r_goto (t := 8) dX7_putInitials_82 (by decide) ?_
  exact h
theorem b119_0 {g : Nat → Nat} {C S : Nat} {σ : PS} {Q : Rs → PS → Prop} {r0 : Nat} {l1 : Option Value}
    (h : zK σ r0 = 9 ∧ zK σ r0 = 9 ∧ (∀ τ1, τ1 = stI σ r0 23 (zI σ r0 21) → WP g C S 119 10 [some (.ref r0), some (.int 0)] [] τ1 Q)) :
    WP g C S 119 0 [some (.ref r0), l1] [] σ Q := by
  refine r_g (pc' := 1) (ls' := [some (.ref r0), l1]) (st' := [.ref r0]) dX7_turn_0 (fun _ => rfl) ?_
  refine r_g (pc' := 2) (ls' := [some (.ref r0), l1]) (st' := [.ref r0, .ref r0]) dX7_turn_1 (fun _ => rfl) ?_
  obtain ⟨hK, h⟩ := h
  refine r_getI dX7_turn_2 rfl (by decide) rfl hK ?_
  obtain ⟨hK, h⟩ := h
  refine r_putI dX7_turn_5 rfl (by decide) (Or.inl rfl) rfl (Or.inl rfl) hK ?_
  generalize eτ1 : stI σ r0 23 (zI σ r0 21) = τ1
  replace h := h _ eτ1.symm
  refine r_ic (v := 0) dX7_turn_8 (by decide) ?_
  refine r_g (pc' := 10) (ls' := [some (.ref r0), some (.int 0)]) (st' := []) dX7_turn_9 (fun _ => rfl) ?_
  exact h
theorem b119_10 {g : Nat → Nat} {C S : Nat} {σ : PS} {Q : Rs → PS → Prop} {r0 : Nat} {x1 : Int32}
    (h : zK σ r0 = 9 ∧ ((zI σ r0 21 : Int32) ≤ x1 → zK σ r0 = 9 ∧ (∀ τ1, τ1 = stI σ r0 21 0 → Q (Sum.inl none) τ1)) ∧ (¬ ((zI σ r0 21 : Int32) ≤ x1) → zK σ r0 = 9 ∧ ∃ b2, zP σ r0 22 = some b2 ∧ (zK σ r0 = 9 ∧ ∃ b3, zP σ r0 20 = some b3 ∧ (∃ n4 : Nat, x1 = nI n4 ∧ n4 < 2147483648 ∧ (zK σ b3 = 101 ∨ zK σ b3 = 1002) ∧ n4 < zL σ b3 ∧ (∃ n5 : Nat, x1 = nI n5 ∧ n5 < 2147483648 ∧ zK σ b2 = 101 ∧ n5 < zL σ b2 ∧ (∀ τ6, τ6 = stI σ b2 n5 (zI σ b3 n4) → WP g C S 119 10 [some (.ref r0), some (.int (x1 + 1))] [] τ6 Q)))))) :
    WP g C S 119 10 [some (.ref r0), some (.int x1)] [] σ Q := by
  refine r_g (pc' := 11) (ls' := [some (.ref r0), some (.int x1)]) (st' := [.int x1]) dX7_turn_10 (fun _ => rfl) ?_
  refine r_g (pc' := 12) (ls' := [some (.ref r0), some (.int x1)]) (st' := [.ref r0, .int x1]) dX7_turn_11 (fun _ => rfl) ?_
  obtain ⟨hK, h⟩ := h
  refine r_getI dX7_turn_12 rfl (by decide) rfl hK ?_
  obtain ⟨h1, h2⟩ := h
  refine r_icmp (t := 36) dX7_turn_15 (by decide) c_ge (fun c => ?_) (fun c => ?_)
  · have h := h1 c
    refine r_g (pc' := 37) (ls' := [some (.ref r0), some (.int x1)]) (st' := [.ref r0]) dX7_turn_36 (fun _ => rfl) ?_
    refine r_ic (v := 0) dX7_turn_37 (by decide) ?_
    obtain ⟨hK, h⟩ := h
    refine r_putI dX7_turn_38 rfl (by decide) (Or.inl rfl) rfl (Or.inl rfl) hK ?_
    generalize eτ1 : stI σ r0 21 0 = τ1
    replace h := h _ eτ1.symm
    exact r_vret dX7_turn_41 rfl h
  · have h := h2 c
    refine r_g (pc' := 19) (ls' := [some (.ref r0), some (.int x1)]) (st' := [.ref r0]) dX7_turn_18 (fun _ => rfl) ?_
    obtain ⟨hK, b2, hP, h⟩ := h
    refine r_getP dX7_turn_19 rfl (by decide) rfl hK hP ?_
    refine r_g (pc' := 23) (ls' := [some (.ref r0), some (.int x1)]) (st' := [.int x1, .ref b2]) dX7_turn_22 (fun _ => rfl) ?_
    refine r_g (pc' := 24) (ls' := [some (.ref r0), some (.int x1)]) (st' := [.ref r0, .int x1, .ref b2]) dX7_turn_23 (fun _ => rfl) ?_
    obtain ⟨hK, b3, hP, h⟩ := h
    refine r_getP dX7_turn_24 rfl (by decide) rfl hK hP ?_
    refine r_g (pc' := 28) (ls' := [some (.ref r0), some (.int x1)]) (st' := [.int x1, .ref b3, .int x1, .ref b2]) dX7_turn_27 (fun _ => rfl) ?_
    obtain ⟨n4, hj, hn, hK, hL, h⟩ := h
    refine r_iald dX7_turn_28 hj hn hK hL ?_
    obtain ⟨n5, hj, hn, hK, hL, h⟩ := h
    refine r_iast dX7_turn_29 hj hn hK hL ?_
    generalize eτ6 : stI σ b2 n5 (zI σ b3 n4) = τ6
    replace h := h _ eτ6.symm
    refine r_inc (v := 1) (ls' := [some (.ref r0), some (.int (x1 + 1))]) dX7_turn_30 rfl (Nat.le_of_ble_eq_true rfl) (by decide) rfl ?_
    refine r_goto (t := 10) dX7_turn_33 (by decide) ?_
    exact h
theorem b120_0 {g : Nat → Nat} {C S : Nat} {σ : PS} {Q : Rs → PS → Prop} {r0 : Nat} {x1 : Int32} {l2 : Option Value} {l3 : Option Value} {l4 : Option Value}
    (h : WP g C S 120 2 [some (.ref r0), some (.int x1), some (.int 0), l3, l4] [] σ Q) :
    WP g C S 120 0 [some (.ref r0), some (.int x1), l2, l3, l4] [] σ Q := by
  refine r_ic (v := 0) dX7_order_0 (by decide) ?_
  refine r_g (pc' := 2) (ls' := [some (.ref r0), some (.int x1), some (.int 0), l3, l4]) (st' := []) dX7_order_1 (fun _ => rfl) ?_
  exact h
theorem b120_2 {g : Nat → Nat} {C S : Nat} {σ : PS} {Q : Rs → PS → Prop} {r0 : Nat} {x1 : Int32} {x2 : Int32} {l3 : Option Value} {l4 : Option Value}
    (h : zK σ r0 = 9 ∧ ((zI σ r0 21 : Int32) ≤ x2 → WP g C S 120 82 [some (.ref r0), some (.int x1), some (.int x2), l3, l4] [] σ Q) ∧ (¬ ((zI σ r0 21 : Int32) ≤ x2) → zK σ r0 = 9 ∧ ((zI σ r0 23 : Int32) ≤ x2 → WP g C S 120 82 [some (.ref r0), some (.int x1), some (.int x2), l3, l4] [] σ Q) ∧ (¬ ((zI σ r0 23 : Int32) ≤ x2) → ((x1 : Int32) = 0 → zK σ r0 = 9 ∧ ∃ b1, zP σ r0 22 = some b1 ∧ (∃ n2 : Nat, x2 = nI n2 ∧ n2 < 2147483648 ∧ (zK σ b1 = 101 ∨ zK σ b1 = 1002) ∧ n2 < zL σ b1 ∧ (WP g C S 120 40 [some (.ref r0), some (.int x1), some (.int x2), l3, l4] [.int (zI σ b1 n2)] σ Q))) ∧ (¬ ((x1 : Int32) = 0) → zK σ r0 = 9 ∧ ∃ b3, zP σ r0 22 = some b3 ∧ (∃ n4 : Nat, x2 = nI n4 ∧ n4 < 2147483648 ∧ (zK σ b3 = 101 ∨ zK σ b3 = 1002) ∧ n4 < zL σ b3 ∧ (WP g C S 105 0 [some (.int (zI σ b3 n4)), none] [] σ (KK g C S 120 31 [some (.ref r0), some (.int x1), some (.int x2), l3, l4] [] Q false))))))) :
    WP g C S 120 2 [some (.ref r0), some (.int x1), some (.int x2), l3, l4] [] σ Q := by
  refine r_g (pc' := 3) (ls' := [some (.ref r0), some (.int x1), some (.int x2), l3, l4]) (st' := [.int x2]) dX7_order_2 (fun _ => rfl) ?_
  refine r_g (pc' := 4) (ls' := [some (.ref r0), some (.int x1), some (.int x2), l3, l4]) (st' := [.ref r0, .int x2]) dX7_order_3 (fun _ => rfl) ?_
  obtain ⟨hK, h⟩ := h
  refine r_getI dX7_order_4 rfl (by decide) rfl hK ?_
  obtain ⟨h1, h2⟩ := h
  refine r_icmp (t := 82) dX7_order_7 (by decide) c_ge (fun c => ?_) (fun c => ?_)
  · have h := h1 c
    exact h
  · have h := h2 c
    refine r_g (pc' := 11) (ls' := [some (.ref r0), some (.int x1), some (.int x2), l3, l4]) (st' := [.int x2]) dX7_order_10 (fun _ => rfl) ?_
    refine r_g (pc' := 12) (ls' := [some (.ref r0), some (.int x1), some (.int x2), l3, l4]) (st' := [.ref r0, .int x2]) dX7_order_11 (fun _ => rfl) ?_
    obtain ⟨hK, h⟩ := h
    refine r_getI dX7_order_12 rfl (by decide) rfl hK ?_
    obtain ⟨h1, h2⟩ := h
    refine r_icmp (t := 82) dX7_order_15 (by decide) c_ge (fun c => ?_) (fun c => ?_)
    · have h := h1 c
      exact h
    · have h := h2 c
      refine r_g (pc' := 19) (ls' := [some (.ref r0), some (.int x1), some (.int x2), l3, l4]) (st' := [.int x1]) dX7_order_18 (fun _ => rfl) ?_
      obtain ⟨h1, h2⟩ := h
      refine r_if (t := 34) dX7_order_19 (by decide) c_eq (fun c => ?_) (fun c => ?_)
      · have h := h1 c
        refine r_g (pc' := 35) (ls' := [some (.ref r0), some (.int x1), some (.int x2), l3, l4]) (st' := [.ref r0]) dX7_order_34 (fun _ => rfl) ?_
        obtain ⟨hK, b1, hP, h⟩ := h
        refine r_getP dX7_order_35 rfl (by decide) rfl hK hP ?_
        refine r_g (pc' := 39) (ls' := [some (.ref r0), some (.int x1), some (.int x2), l3, l4]) (st' := [.int x2, .ref b1]) dX7_order_38 (fun _ => rfl) ?_
        obtain ⟨n2, hj, hn, hK, hL, h⟩ := h
        refine r_iald dX7_order_39 hj hn hK hL ?_
        exact h
      · have h := h2 c
        refine r_g (pc' := 23) (ls' := [some (.ref r0), some (.int x1), some (.int x2), l3, l4]) (st' := [.ref r0]) dX7_order_22 (fun _ => rfl) ?_
        obtain ⟨hK, b3, hP, h⟩ := h
        refine r_getP dX7_order_23 rfl (by decide) rfl hK hP ?_
        refine r_g (pc' := 27) (ls' := [some (.ref r0), some (.int x1), some (.int x2), l3, l4]) (st' := [.int x2, .ref b3]) dX7_order_26 (fun _ => rfl) ?_
        obtain ⟨n4, hj, hn, hK, hL, h⟩ := h
        refine r_iald dX7_order_27 hj hn hK hL ?_
        exact r_call (th := false) dX7_order_28 (fun _ => ex_calS rfl (by decide)) rfl (Nat.le_of_ble_eq_true rfl) (Nat.le_of_ble_eq_true rfl) (Nat.le_of_ble_eq_true rfl) rfl rfl rfl rfl (fun q => nomatch q) h
theorem b120_31 {g : Nat → Nat} {C S : Nat} {σ : PS} {Q : Rs → PS → Prop} {r0 : Nat} {x1 : Int32} {x2 : Int32} {l3 : Option Value} {l4 : Option Value} {u0 : Int32}
    (h : WP g C S 120 40 [some (.ref r0), some (.int x1), some (.int x2), l3, l4] [.int u0] σ Q) :
    WP g C S 120 31 [some (.ref r0), some (.int x1), some (.int x2), l3, l4] [.int u0] σ Q := by
  refine r_goto (t := 40) dX7_order_31 (by decide) ?_
  exact h
theorem b120_40 {g : Nat → Nat} {C S : Nat} {σ : PS} {Q : Rs → PS → Prop} {r0 : Nat} {x1 : Int32} {x2 : Int32} {l3 : Option Value} {l4 : Option Value} {u0 : Int32}
    (h : ((x1 : Int32) = 0 → zK σ r0 = 9 ∧ ∃ b1, zP σ r0 20 = some b1 ∧ (∃ n2 : Nat, x2 = nI n2 ∧ n2 < 2147483648 ∧ (zK σ b1 = 101 ∨ zK σ b1 = 1002) ∧ n2 < zL σ b1 ∧ (WP g C S 120 63 [some (.ref r0), some (.int x1), some (.int x2), some (.int u0), l4] [.int (zI σ b1 n2)] σ Q))) ∧ (¬ ((x1 : Int32) = 0) → zK σ r0 = 9 ∧ ∃ b3, zP σ r0 20 = some b3 ∧ (∃ n4 : Nat, x2 = nI n4 ∧ n4 < 2147483648 ∧ (zK σ b3 = 101 ∨ zK σ b3 = 1002) ∧ n4 < zL σ b3 ∧ (WP g C S 105 0 [some (.int (zI σ b3 n4)), none] [] σ (KK g C S 120 54 [some (.ref r0), some (.int x1), some (.int x2), some (.int u0), l4] [] Q false))))) :
    WP g C S 120 40 [some (.ref r0), some (.int x1), some (.int x2), l3, l4] [.int u0] σ Q := by
  refine r_g (pc' := 41) (ls' := [some (.ref r0), some (.int x1), some (.int x2), some (.int u0), l4]) (st' := []) dX7_order_40 (fun _ => rfl) ?_
  refine r_g (pc' := 42) (ls' := [some (.ref r0), some (.int x1), some (.int x2), some (.int u0), l4]) (st' := [.int x1]) dX7_order_41 (fun _ => rfl) ?_
  obtain ⟨h1, h2⟩ := h
  refine r_if (t := 57) dX7_order_42 (by decide) c_eq (fun c => ?_) (fun c => ?_)
  · have h := h1 c
    refine r_g (pc' := 58) (ls' := [some (.ref r0), some (.int x1), some (.int x2), some (.int u0), l4]) (st' := [.ref r0]) dX7_order_57 (fun _ => rfl) ?_
    obtain ⟨hK, b1, hP, h⟩ := h
    refine r_getP dX7_order_58 rfl (by decide) rfl hK hP ?_
    refine r_g (pc' := 62) (ls' := [some (.ref r0), some (.int x1), some (.int x2), some (.int u0), l4]) (st' := [.int x2, .ref b1]) dX7_order_61 (fun _ => rfl) ?_
    obtain ⟨n2, hj, hn, hK, hL, h⟩ := h
    refine r_iald dX7_order_62 hj hn hK hL ?_
    exact h
  · have h := h2 c
    refine r_g (pc' := 46) (ls' := [some (.ref r0), some (.int x1), some (.int x2), some (.int u0), l4]) (st' := [.ref r0]) dX7_order_45 (fun _ => rfl) ?_
    obtain ⟨hK, b3, hP, h⟩ := h
    refine r_getP dX7_order_46 rfl (by decide) rfl hK hP ?_
    refine r_g (pc' := 50) (ls' := [some (.ref r0), some (.int x1), some (.int x2), some (.int u0), l4]) (st' := [.int x2, .ref b3]) dX7_order_49 (fun _ => rfl) ?_
    obtain ⟨n4, hj, hn, hK, hL, h⟩ := h
    refine r_iald dX7_order_50 hj hn hK hL ?_
    exact r_call (th := false) dX7_order_51 (fun _ => ex_calS rfl (by decide)) rfl (Nat.le_of_ble_eq_true rfl) (Nat.le_of_ble_eq_true rfl) (Nat.le_of_ble_eq_true rfl) rfl rfl rfl rfl (fun q => nomatch q) h
theorem b120_54 {g : Nat → Nat} {C S : Nat} {σ : PS} {Q : Rs → PS → Prop} {r0 : Nat} {x1 : Int32} {x2 : Int32} {x3 : Int32} {l4 : Option Value} {u0 : Int32}
    (h : WP g C S 120 63 [some (.ref r0), some (.int x1), some (.int x2), some (.int x3), l4] [.int u0] σ Q) :
    WP g C S 120 54 [some (.ref r0), some (.int x1), some (.int x2), some (.int x3), l4] [.int u0] σ Q := by
  refine r_goto (t := 63) dX7_order_54 (by decide) ?_
  exact h
theorem b120_63 {g : Nat → Nat} {C S : Nat} {σ : PS} {Q : Rs → PS → Prop} {r0 : Nat} {x1 : Int32} {x2 : Int32} {x3 : Int32} {l4 : Option Value} {u0 : Int32}
    (h : ((x3 : Int32) = u0 → WP g C S 120 2 [some (.ref r0), some (.int x1), some (.int (x2 + 1)), some (.int x3), some (.int u0)] [] σ Q) ∧ (¬ ((x3 : Int32) = u0) → Q (Sum.inl (some (.int (x3 - u0)))) σ)) :
    WP g C S 120 63 [some (.ref r0), some (.int x1), some (.int x2), some (.int x3), l4] [.int u0] σ Q := by
  refine r_g (pc' := 65) (ls' := [some (.ref r0), some (.int x1), some (.int x2), some (.int x3), some (.int u0)]) (st' := []) dX7_order_63 (fun _ => rfl) ?_
  refine r_g (pc' := 66) (ls' := [some (.ref r0), some (.int x1), some (.int x2), some (.int x3), some (.int u0)]) (st' := [.int x3]) dX7_order_65 (fun _ => rfl) ?_
  refine r_g (pc' := 68) (ls' := [some (.ref r0), some (.int x1), some (.int x2), some (.int x3), some (.int u0)]) (st' := [.int u0, .int x3]) dX7_order_66 (fun _ => rfl) ?_
  obtain ⟨h1, h2⟩ := h
  refine r_icmp (t := 76) dX7_order_68 (by decide) c_eq (fun c => ?_) (fun c => ?_)
  · have h := h1 c
    refine r_inc (v := 1) (ls' := [some (.ref r0), some (.int x1), some (.int (x2 + 1)), some (.int x3), some (.int u0)]) dX7_order_76 rfl (Nat.le_of_ble_eq_true rfl) (by decide) rfl ?_
    refine r_goto (t := 2) dX7_order_79 (by decide) ?_
    exact h
  · have h := h2 c
    refine r_g (pc' := 72) (ls' := [some (.ref r0), some (.int x1), some (.int x2), some (.int x3), some (.int u0)]) (st' := [.int x3]) dX7_order_71 (fun _ => rfl) ?_
    refine r_g (pc' := 74) (ls' := [some (.ref r0), some (.int x1), some (.int x2), some (.int x3), some (.int u0)]) (st' := [.int u0, .int x3]) dX7_order_72 (fun _ => rfl) ?_
    refine r_g (pc' := 75) (ls' := [some (.ref r0), some (.int x1), some (.int x2), some (.int x3), some (.int u0)]) (st' := [.int (x3 - u0)]) dX7_order_74 (fun _ => rfl) ?_
    exact r_ret dX7_order_75 rfl h
theorem b120_82 {g : Nat → Nat} {C S : Nat} {σ : PS} {Q : Rs → PS → Prop} {r0 : Nat} {l1 : Option Value} {l2 : Option Value} {l3 : Option Value} {l4 : Option Value}
    (h : zK σ r0 = 9 ∧ zK σ r0 = 9 ∧ Q (Sum.inl (some (.int ((zI σ r0 23) - (zI σ r0 21))))) σ) :
    WP g C S 120 82 [some (.ref r0), l1, l2, l3, l4] [] σ Q := by
  refine r_g (pc' := 83) (ls' := [some (.ref r0), l1, l2, l3, l4]) (st' := [.ref r0]) dX7_order_82 (fun _ => rfl) ?_
  obtain ⟨hK, h⟩ := h
  refine r_getI dX7_order_83 rfl (by decide) rfl hK ?_
  refine r_g (pc' := 87) (ls' := [some (.ref r0), l1, l2, l3, l4]) (st' := [.ref r0, .int (zI σ r0 23)]) dX7_order_86 (fun _ => rfl) ?_
  obtain ⟨hK, h⟩ := h
  refine r_getI dX7_order_87 rfl (by decide) rfl hK ?_
  refine r_g (pc' := 91) (ls' := [some (.ref r0), l1, l2, l3, l4]) (st' := [.int ((zI σ r0 23) - (zI σ r0 21))]) dX7_order_90 (fun _ => rfl) ?_
  exact r_ret dX7_order_91 rfl h
theorem b121_0 {g : Nat → Nat} {C S : Nat} {σ : PS} {Q : Rs → PS → Prop} {r0 : Nat} {x1 : Int32} {x2 : Int32}
    (h : zK σ r0 = 9 ∧ (∀ τ1, τ1 = stI σ r0 21 0 → zK τ1 r0 = 9 ∧ WP g C S 115 0 [some (.ref r0), some (.int 0), some (.int x1), some (.int x2), some (.int 1000), none, none, none, none] [] τ1 (KK g C S 121 15 [some (.ref r0), some (.int x1), some (.int x2)] [] Q false))) :
    WP g C S 121 0 [some (.ref r0), some (.int x1), some (.int x2)] [] σ Q := by
  refine r_g (pc' := 1) (ls' := [some (.ref r0), some (.int x1), some (.int x2)]) (st' := [.ref r0]) dX7_orderOfPart_0 (fun _ => rfl) ?_
  refine r_ic (v := 0) dX7_orderOfPart_1 (by decide) ?_
  obtain ⟨hK, h⟩ := h
  refine r_putI dX7_orderOfPart_2 rfl (by decide) (Or.inl rfl) rfl (Or.inl rfl) hK ?_
  generalize eτ1 : stI σ r0 21 0 = τ1
  replace h := h _ eτ1.symm
  refine r_g (pc' := 6) (ls' := [some (.ref r0), some (.int x1), some (.int x2)]) (st' := [.ref r0]) dX7_orderOfPart_5 (fun _ => rfl) ?_
  refine r_ic (v := 0) dX7_orderOfPart_6 (by decide) ?_
  refine r_g (pc' := 8) (ls' := [some (.ref r0), some (.int x1), some (.int x2)]) (st' := [.int x1, .int 0, .ref r0]) dX7_orderOfPart_7 (fun _ => rfl) ?_
  refine r_g (pc' := 9) (ls' := [some (.ref r0), some (.int x1), some (.int x2)]) (st' := [.int x2, .int x1, .int 0, .ref r0]) dX7_orderOfPart_8 (fun _ => rfl) ?_
  refine r_si (v := 1000) dX7_orderOfPart_9 (by decide) ?_
  obtain ⟨hK, h⟩ := h
  exact r_call (th := false) dX7_orderOfPart_12 (fun _ => ex_calV rfl (by decide)) rfl (Nat.le_of_ble_eq_true rfl) (Nat.le_of_ble_eq_true rfl) (Nat.le_of_ble_eq_true rfl) (rcv0 rfl rfl (by decide) hK) rfl rfl rfl (fun q => nomatch q) h
theorem b121_15 {g : Nat → Nat} {C S : Nat} {σ : PS} {Q : Rs → PS → Prop} {r0 : Nat} {x1 : Int32} {x2 : Int32}
    (h : zK σ r0 = 9 ∧ WP g C S 119 0 [some (.ref r0), none] [] σ (KK g C S 121 19 [some (.ref r0), some (.int x1), some (.int x2)] [] Q false)) :
    WP g C S 121 15 [some (.ref r0), some (.int x1), some (.int x2)] [] σ Q := by
  refine r_g (pc' := 16) (ls' := [some (.ref r0), some (.int x1), some (.int x2)]) (st' := [.ref r0]) dX7_orderOfPart_15 (fun _ => rfl) ?_
  obtain ⟨hK, h⟩ := h
  exact r_call (th := false) dX7_orderOfPart_16 (fun _ => ex_calV rfl (by decide)) rfl (Nat.le_of_ble_eq_true rfl) (Nat.le_of_ble_eq_true rfl) (Nat.le_of_ble_eq_true rfl) (rcv0 rfl rfl (by decide) hK) rfl rfl rfl (fun q => nomatch q) h
theorem b121_19 {g : Nat → Nat} {C S : Nat} {σ : PS} {Q : Rs → PS → Prop} {r0 : Nat} {x1 : Int32} {x2 : Int32}
    (h : zK σ r0 = 9 ∧ WP g C S 115 0 [some (.ref r0), some (.int 1), some (.int x1), some (.int x2), some (.int 1000), none, none, none, none] [] σ (KK g C S 121 29 [some (.ref r0), some (.int x1), some (.int x2)] [] Q false)) :
    WP g C S 121 19 [some (.ref r0), some (.int x1), some (.int x2)] [] σ Q := by
  refine r_g (pc' := 20) (ls' := [some (.ref r0), some (.int x1), some (.int x2)]) (st' := [.ref r0]) dX7_orderOfPart_19 (fun _ => rfl) ?_
  refine r_ic (v := 1) dX7_orderOfPart_20 (by decide) ?_
  refine r_g (pc' := 22) (ls' := [some (.ref r0), some (.int x1), some (.int x2)]) (st' := [.int x1, .int 1, .ref r0]) dX7_orderOfPart_21 (fun _ => rfl) ?_
  refine r_g (pc' := 23) (ls' := [some (.ref r0), some (.int x1), some (.int x2)]) (st' := [.int x2, .int x1, .int 1, .ref r0]) dX7_orderOfPart_22 (fun _ => rfl) ?_
  refine r_si (v := 1000) dX7_orderOfPart_23 (by decide) ?_
  obtain ⟨hK, h⟩ := h
  exact r_call (th := false) dX7_orderOfPart_26 (fun _ => ex_calV rfl (by decide)) rfl (Nat.le_of_ble_eq_true rfl) (Nat.le_of_ble_eq_true rfl) (Nat.le_of_ble_eq_true rfl) (rcv0 rfl rfl (by decide) hK) rfl rfl rfl (fun q => nomatch q) h
theorem b121_29 {g : Nat → Nat} {C S : Nat} {σ : PS} {Q : Rs → PS → Prop} {r0 : Nat} {l1 : Option Value} {l2 : Option Value}
    (h : zK σ r0 = 9 ∧ WP g C S 120 0 [some (.ref r0), some (.int 1), none, none, none] [] σ (KK g C S 121 34 [some (.ref r0), l1, l2] [] Q false)) :
    WP g C S 121 29 [some (.ref r0), l1, l2] [] σ Q := by
  refine r_g (pc' := 30) (ls' := [some (.ref r0), l1, l2]) (st' := [.ref r0]) dX7_orderOfPart_29 (fun _ => rfl) ?_
  refine r_ic (v := 1) dX7_orderOfPart_30 (by decide) ?_
  obtain ⟨hK, h⟩ := h
  exact r_call (th := false) dX7_orderOfPart_31 (fun _ => ex_calV rfl (by decide)) rfl (Nat.le_of_ble_eq_true rfl) (Nat.le_of_ble_eq_true rfl) (Nat.le_of_ble_eq_true rfl) (rcv0 rfl rfl (by decide) hK) rfl rfl rfl (fun q => nomatch q) h
theorem b121_34 {g : Nat → Nat} {C S : Nat} {σ : PS} {Q : Rs → PS → Prop} {l0 : Option Value} {l1 : Option Value} {l2 : Option Value} {u0 : Int32}
    (h : Q (Sum.inl (some (.int u0))) σ) :
    WP g C S 121 34 [l0, l1, l2] [.int u0] σ Q := by
  exact r_ret dX7_orderOfPart_34 rfl h
theorem b122_0 {g : Nat → Nat} {C S : Nat} {σ : PS} {Q : Rs → PS → Prop} {r0 : Nat} {x1 : Int32} {x2 : Int32} {l3 : Option Value} {l4 : Option Value}
    (h : zK σ r0 = 9 ∧ WP g C S 110 0 [some (.ref r0), some (.int 0), some (.int x1), none, none, none, none, none, none, none, none, none, none, none] [] σ (KK g C S 122 6 [some (.ref r0), some (.int x1), some (.int x2), l3, l4] [] Q false)) :
    WP g C S 122 0 [some (.ref r0), some (.int x1), some (.int x2), l3, l4] [] σ Q := by
  refine r_g (pc' := 1) (ls' := [some (.ref r0), some (.int x1), some (.int x2), l3, l4]) (st' := [.ref r0]) dX7_orderOfPersons_0 (fun _ => rfl) ?_
  refine r_ic (v := 0) dX7_orderOfPersons_1 (by decide) ?_
  refine r_g (pc' := 3) (ls' := [some (.ref r0), some (.int x1), some (.int x2), l3, l4]) (st' := [.int x1, .int 0, .ref r0]) dX7_orderOfPersons_2 (fun _ => rfl) ?_
  obtain ⟨hK, h⟩ := h
  exact r_call (th := false) dX7_orderOfPersons_3 (fun _ => ex_calV rfl (by decide)) rfl (Nat.le_of_ble_eq_true rfl) (Nat.le_of_ble_eq_true rfl) (Nat.le_of_ble_eq_true rfl) (rcv0 rfl rfl (by decide) hK) rfl rfl rfl (fun q => nomatch q) h
theorem b122_6 {g : Nat → Nat} {C S : Nat} {σ : PS} {Q : Rs → PS → Prop} {r0 : Nat} {l1 : Option Value} {x2 : Int32} {l3 : Option Value} {l4 : Option Value}
    (h : zK σ r0 = 9 ∧ WP g C S 110 0 [some (.ref r0), some (.int 1), some (.int x2), none, none, none, none, none, none, none, none, none, none, none] [] σ (KK g C S 122 12 [some (.ref r0), l1, some (.int x2), l3, l4] [] Q false)) :
    WP g C S 122 6 [some (.ref r0), l1, some (.int x2), l3, l4] [] σ Q := by
  refine r_g (pc' := 7) (ls' := [some (.ref r0), l1, some (.int x2), l3, l4]) (st' := [.ref r0]) dX7_orderOfPersons_6 (fun _ => rfl) ?_
  refine r_ic (v := 1) dX7_orderOfPersons_7 (by decide) ?_
  refine r_g (pc' := 9) (ls' := [some (.ref r0), l1, some (.int x2), l3, l4]) (st' := [.int x2, .int 1, .ref r0]) dX7_orderOfPersons_8 (fun _ => rfl) ?_
  obtain ⟨hK, h⟩ := h
  exact r_call (th := false) dX7_orderOfPersons_9 (fun _ => ex_calV rfl (by decide)) rfl (Nat.le_of_ble_eq_true rfl) (Nat.le_of_ble_eq_true rfl) (Nat.le_of_ble_eq_true rfl) (rcv0 rfl rfl (by decide) hK) rfl rfl rfl (fun q => nomatch q) h
theorem b122_12 {g : Nat → Nat} {C S : Nat} {σ : PS} {Q : Rs → PS → Prop} {r0 : Nat} {l1 : Option Value} {l2 : Option Value} {l3 : Option Value} {l4 : Option Value}
    (h : WP g C S 122 14 [some (.ref r0), l1, (clr l2), some (.int 0), l4] [] σ Q) :
    WP g C S 122 12 [some (.ref r0), l1, l2, l3, l4] [] σ Q := by
  refine r_ic (v := 0) dX7_orderOfPersons_12 (by decide) ?_
  refine r_g (pc' := 14) (ls' := [some (.ref r0), l1, (clr l2), some (.int 0), l4]) (st' := []) dX7_orderOfPersons_13 (fun _ => rfl) ?_
  exact h
theorem b122_14 {g : Nat → Nat} {C S : Nat} {σ : PS} {Q : Rs → PS → Prop} {r0 : Nat} {l1 : Option Value} {l2 : Option Value} {x3 : Int32} {l4 : Option Value}
    (h : zK σ r0 = 9 ∧ ∃ b1, zP σ r0 19 = some b1 ∧ (∃ n2 : Nat, 0 = nI n2 ∧ n2 < 2147483648 ∧ (zK σ b1 = 101 ∨ zK σ b1 = 1002) ∧ n2 < zL σ b1 ∧ (((zI σ b1 n2 : Int32) ≤ x3 → WP g C S 122 92 [some (.ref r0), l1, l2, some (.int x3), l4] [] σ Q) ∧ (¬ ((zI σ b1 n2 : Int32) ≤ x3) → zK σ r0 = 9 ∧ ∃ b3, zP σ r0 19 = some b3 ∧ (∃ n4 : Nat, 1 = nI n4 ∧ n4 < 2147483648 ∧ (zK σ b3 = 101 ∨ zK σ b3 = 1002) ∧ n4 < zL σ b3 ∧ (((zI σ b3 n4 : Int32) ≤ x3 → WP g C S 122 92 [some (.ref r0), l1, l2, some (.int x3), l4] [] σ Q) ∧ (¬ ((zI σ b3 n4 : Int32) ≤ x3) → zK σ r0 = 9 ∧ WP g C S 121 0 [some (.ref r0), some (.int x3), some (.int 2)] [] σ (KK g C S 122 40 [some (.ref r0), l1, l2, some (.int x3), l4] [] Q false)))))))) :
    WP g C S 122 14 [some (.ref r0), l1, l2, some (.int x3), l4] [] σ Q := by
  refine r_g (pc' := 15) (ls' := [some (.ref r0), l1, l2, some (.int x3), l4]) (st' := [.int x3]) dX7_orderOfPersons_14 (fun _ => rfl) ?_
  refine r_g (pc' := 16) (ls' := [some (.ref r0), l1, l2, some (.int x3), l4]) (st' := [.ref r0, .int x3]) dX7_orderOfPersons_15 (fun _ => rfl) ?_
  obtain ⟨hK, b1, hP, h⟩ := h
  refine r_getP dX7_orderOfPersons_16 rfl (by decide) rfl hK hP ?_
  refine r_ic (v := 0) dX7_orderOfPersons_19 (by decide) ?_
  obtain ⟨n2, hj, hn, hK, hL, h⟩ := h
  refine r_iald dX7_orderOfPersons_20 hj hn hK hL ?_
  obtain ⟨h1, h2⟩ := h
  refine r_icmp (t := 92) dX7_orderOfPersons_21 (by decide) c_ge (fun c => ?_) (fun c => ?_)
  · have h := h1 c
    exact h
  · have h := h2 c
    refine r_g (pc' := 25) (ls' := [some (.ref r0), l1, l2, some (.int x3), l4]) (st' := [.int x3]) dX7_orderOfPersons_24 (fun _ => rfl) ?_
    refine r_g (pc' := 26) (ls' := [some (.ref r0), l1, l2, some (.int x3), l4]) (st' := [.ref r0, .int x3]) dX7_orderOfPersons_25 (fun _ => rfl) ?_
    obtain ⟨hK, b3, hP, h⟩ := h
    refine r_getP dX7_orderOfPersons_26 rfl (by decide) rfl hK hP ?_
    refine r_ic (v := 1) dX7_orderOfPersons_29 (by decide) ?_
    obtain ⟨n4, hj, hn, hK, hL, h⟩ := h
    refine r_iald dX7_orderOfPersons_30 hj hn hK hL ?_
    obtain ⟨h1, h2⟩ := h
    refine r_icmp (t := 92) dX7_orderOfPersons_31 (by decide) c_ge (fun c => ?_) (fun c => ?_)
    · have h := h1 c
      exact h
    · have h := h2 c
      refine r_g (pc' := 35) (ls' := [some (.ref r0), l1, l2, some (.int x3), l4]) (st' := [.ref r0]) dX7_orderOfPersons_34 (fun _ => rfl) ?_
      refine r_g (pc' := 36) (ls' := [some (.ref r0), l1, l2, some (.int x3), l4]) (st' := [.int x3, .ref r0]) dX7_orderOfPersons_35 (fun _ => rfl) ?_
      refine r_ic (v := 2) dX7_orderOfPersons_36 (by decide) ?_
      obtain ⟨hK, h⟩ := h
      exact r_call (th := false) dX7_orderOfPersons_37 (fun _ => ex_calV rfl (by decide)) rfl (Nat.le_of_ble_eq_true rfl) (Nat.le_of_ble_eq_true rfl) (Nat.le_of_ble_eq_true rfl) (rcv0 rfl rfl (by decide) hK) rfl rfl rfl (fun q => nomatch q) h
theorem b122_40 {g : Nat → Nat} {C S : Nat} {σ : PS} {Q : Rs → PS → Prop} {r0 : Nat} {l1 : Option Value} {l2 : Option Value} {x3 : Int32} {l4 : Option Value} {u0 : Int32}
    (h : ((u0 : Int32) = 0 → zK σ r0 = 9 ∧ WP g C S 121 0 [some (.ref r0), some (.int x3), some (.int 0)] [] σ (KK g C S 122 58 [some (.ref r0), l1, l2, some (.int x3), some (.int u0)] [] Q false)) ∧ (¬ ((u0 : Int32) = 0) → WP g C S 122 58 [some (.ref r0), l1, l2, some (.int x3), some (.int u0)] [.int u0] σ Q)) :
    WP g C S 122 40 [some (.ref r0), l1, l2, some (.int x3), l4] [.int u0] σ Q := by
  refine r_g (pc' := 42) (ls' := [some (.ref r0), l1, l2, some (.int x3), some (.int u0)]) (st' := []) dX7_orderOfPersons_40 (fun _ => rfl) ?_
  refine r_g (pc' := 44) (ls' := [some (.ref r0), l1, l2, some (.int x3), some (.int u0)]) (st' := [.int u0]) dX7_orderOfPersons_42 (fun _ => rfl) ?_
  obtain ⟨h1, h2⟩ := h
  refine r_if (t := 52) dX7_orderOfPersons_44 (by decide) c_eq (fun c => ?_) (fun c => ?_)
  · have h := h1 c
    refine r_g (pc' := 53) (ls' := [some (.ref r0), l1, l2, some (.int x3), some (.int u0)]) (st' := [.ref r0]) dX7_orderOfPersons_52 (fun _ => rfl) ?_
    refine r_g (pc' := 54) (ls' := [some (.ref r0), l1, l2, some (.int x3), some (.int u0)]) (st' := [.int x3, .ref r0]) dX7_orderOfPersons_53 (fun _ => rfl) ?_
    refine r_ic (v := 0) dX7_orderOfPersons_54 (by decide) ?_
    obtain ⟨hK, h⟩ := h
    exact r_call (th := false) dX7_orderOfPersons_55 (fun _ => ex_calV rfl (by decide)) rfl (Nat.le_of_ble_eq_true rfl) (Nat.le_of_ble_eq_true rfl) (Nat.le_of_ble_eq_true rfl) (rcv0 rfl rfl (by decide) hK) rfl rfl rfl (fun q => nomatch q) h
  · have h := h2 c
    refine r_g (pc' := 49) (ls' := [some (.ref r0), l1, l2, some (.int x3), some (.int u0)]) (st' := [.int u0]) dX7_orderOfPersons_47 (fun _ => rfl) ?_
    refine r_goto (t := 58) dX7_orderOfPersons_49 (by decide) ?_
    exact h
theorem b122_58 {g : Nat → Nat} {C S : Nat} {σ : PS} {Q : Rs → PS → Prop} {r0 : Nat} {l1 : Option Value} {l2 : Option Value} {x3 : Int32} {l4 : Option Value} {u0 : Int32}
    (h : ((u0 : Int32) = 0 → zK σ r0 = 9 ∧ WP g C S 121 0 [some (.ref r0), some (.int x3), some (.int 1)] [] σ (KK g C S 122 76 [some (.ref r0), l1, l2, some (.int x3), some (.int u0)] [] Q false)) ∧ (¬ ((u0 : Int32) = 0) → WP g C S 122 76 [some (.ref r0), l1, l2, some (.int x3), some (.int u0)] [.int u0] σ Q)) :
    WP g C S 122 58 [some (.ref r0), l1, l2, some (.int x3), l4] [.int u0] σ Q := by
  refine r_g (pc' := 60) (ls' := [some (.ref r0), l1, l2, some (.int x3), some (.int u0)]) (st' := []) dX7_orderOfPersons_58 (fun _ => rfl) ?_
  refine r_g (pc' := 62) (ls' := [some (.ref r0), l1, l2, some (.int x3), some (.int u0)]) (st' := [.int u0]) dX7_orderOfPersons_60 (fun _ => rfl) ?_
  obtain ⟨h1, h2⟩ := h
  refine r_if (t := 70) dX7_orderOfPersons_62 (by decide) c_eq (fun c => ?_) (fun c => ?_)
  · have h := h1 c
    refine r_g (pc' := 71) (ls' := [some (.ref r0), l1, l2, some (.int x3), some (.int u0)]) (st' := [.ref r0]) dX7_orderOfPersons_70 (fun _ => rfl) ?_
    refine r_g (pc' := 72) (ls' := [some (.ref r0), l1, l2, some (.int x3), some (.int u0)]) (st' := [.int x3, .ref r0]) dX7_orderOfPersons_71 (fun _ => rfl) ?_
    refine r_ic (v := 1) dX7_orderOfPersons_72 (by decide) ?_
    obtain ⟨hK, h⟩ := h
    exact r_call (th := false) dX7_orderOfPersons_73 (fun _ => ex_calV rfl (by decide)) rfl (Nat.le_of_ble_eq_true rfl) (Nat.le_of_ble_eq_true rfl) (Nat.le_of_ble_eq_true rfl) (rcv0 rfl rfl (by decide) hK) rfl rfl rfl (fun q => nomatch q) h
  · have h := h2 c
    refine r_g (pc' := 67) (ls' := [some (.ref r0), l1, l2, some (.int x3), some (.int u0)]) (st' := [.int u0]) dX7_orderOfPersons_65 (fun _ => rfl) ?_
    refine r_goto (t := 76) dX7_orderOfPersons_67 (by decide) ?_
    exact h
theorem b122_76 {g : Nat → Nat} {C S : Nat} {σ : PS} {Q : Rs → PS → Prop} {r0 : Nat} {l1 : Option Value} {l2 : Option Value} {x3 : Int32} {l4 : Option Value} {u0 : Int32}
    (h : ((u0 : Int32) = 0 → WP g C S 122 14 [some (.ref r0), l1, (clr l2), some (.int (x3 + 1)), some (.int u0)] [] σ Q) ∧ (¬ ((u0 : Int32) = 0) → Q (Sum.inl (some (.int u0))) σ)) :
    WP g C S 122 76 [some (.ref r0), l1, l2, some (.int x3), l4] [.int u0] σ Q := by
  refine r_g (pc' := 78) (ls' := [some (.ref r0), l1, l2, some (.int x3), some (.int u0)]) (st' := []) dX7_orderOfPersons_76 (fun _ => rfl) ?_
  refine r_g (pc' := 80) (ls' := [some (.ref r0), l1, l2, some (.int x3), some (.int u0)]) (st' := [.int u0]) dX7_orderOfPersons_78 (fun _ => rfl) ?_
  obtain ⟨h1, h2⟩ := h
  refine r_if (t := 86) dX7_orderOfPersons_80 (by decide) c_eq (fun c => ?_) (fun c => ?_)
  · have h := h1 c
    refine r_inc (v := 1) (ls' := [some (.ref r0), l1, (clr l2), some (.int (x3 + 1)), some (.int u0)]) dX7_orderOfPersons_86 rfl (Nat.le_of_ble_eq_true rfl) (by decide) rfl ?_
    refine r_goto (t := 14) dX7_orderOfPersons_89 (by decide) ?_
    exact h
  · have h := h2 c
    refine r_g (pc' := 85) (ls' := [some (.ref r0), l1, l2, some (.int x3), some (.int u0)]) (st' := [.int u0]) dX7_orderOfPersons_83 (fun _ => rfl) ?_
    exact r_ret dX7_orderOfPersons_85 rfl h
theorem b122_92 {g : Nat → Nat} {C S : Nat} {σ : PS} {Q : Rs → PS → Prop} {r0 : Nat} {l1 : Option Value} {l2 : Option Value} {l3 : Option Value} {l4 : Option Value}
    (h : zK σ r0 = 9 ∧ ∃ b1, zP σ r0 19 = some b1 ∧ (∃ n2 : Nat, 0 = nI n2 ∧ n2 < 2147483648 ∧ (zK σ b1 = 101 ∨ zK σ b1 = 1002) ∧ n2 < zL σ b1 ∧ (zK σ r0 = 9 ∧ ∃ b3, zP σ r0 19 = some b3 ∧ (∃ n4 : Nat, 1 = nI n4 ∧ n4 < 2147483648 ∧ (zK σ b3 = 101 ∨ zK σ b3 = 1002) ∧ n4 < zL σ b3 ∧ (Q (Sum.inl (some (.int ((zI σ b1 n2) - (zI σ b3 n4))))) σ))))) :
    WP g C S 122 92 [some (.ref r0), l1, l2, l3, l4] [] σ Q := by
  refine r_g (pc' := 93) (ls' := [some (.ref r0), l1, l2, l3, l4]) (st' := [.ref r0]) dX7_orderOfPersons_92 (fun _ => rfl) ?_
  obtain ⟨hK, b1, hP, h⟩ := h
  refine r_getP dX7_orderOfPersons_93 rfl (by decide) rfl hK hP ?_
  refine r_ic (v := 0) dX7_orderOfPersons_96 (by decide) ?_
  obtain ⟨n2, hj, hn, hK, hL, h⟩ := h
  refine r_iald dX7_orderOfPersons_97 hj hn hK hL ?_
  refine r_g (pc' := 99) (ls' := [some (.ref r0), l1, l2, l3, l4]) (st' := [.ref r0, .int (zI σ b1 n2)]) dX7_orderOfPersons_98 (fun _ => rfl) ?_
  obtain ⟨hK, b3, hP, h⟩ := h
  refine r_getP dX7_orderOfPersons_99 rfl (by decide) rfl hK hP ?_
  refine r_ic (v := 1) dX7_orderOfPersons_102 (by decide) ?_
  obtain ⟨n4, hj, hn, hK, hL, h⟩ := h
  refine r_iald dX7_orderOfPersons_103 hj hn hK hL ?_
  refine r_g (pc' := 105) (ls' := [some (.ref r0), l1, l2, l3, l4]) (st' := [.int ((zI σ b1 n2) - (zI σ b3 n4))]) dX7_orderOfPersons_104 (fun _ => rfl) ?_
  exact r_ret dX7_orderOfPersons_105 rfl h
theorem b123_0 {g : Nat → Nat} {C S : Nat} {σ : PS} {Q : Rs → PS → Prop} {r0 : Nat} {x1 : Int32} {x2 : Int32} {x3 : Int32}
    (h : zK σ r0 = 9 ∧ (∀ τ1, τ1 = stI σ r0 21 0 → zK τ1 r0 = 9 ∧ WP g C S 103 0 [some (.ref r0), some (.int x1), some (.int x3), none] [] τ1 (KK g C S 123 12 [some (.ref r0), some (.int x1), some (.int x2), some (.int x3)] [.ref r0] Q false))) :
    WP g C S 123 0 [some (.ref r0), some (.int x1), some (.int x2), some (.int x3)] [] σ Q := by
  refine r_g (pc' := 1) (ls' := [some (.ref r0), some (.int x1), some (.int x2), some (.int x3)]) (st' := [.ref r0]) dX7_orderOfField_0 (fun _ => rfl) ?_
  refine r_ic (v := 0) dX7_orderOfField_1 (by decide) ?_
  obtain ⟨hK, h⟩ := h
  refine r_putI dX7_orderOfField_2 rfl (by decide) (Or.inl rfl) rfl (Or.inl rfl) hK ?_
  generalize eτ1 : stI σ r0 21 0 = τ1
  replace h := h _ eτ1.symm
  refine r_g (pc' := 6) (ls' := [some (.ref r0), some (.int x1), some (.int x2), some (.int x3)]) (st' := [.ref r0]) dX7_orderOfField_5 (fun _ => rfl) ?_
  refine r_g (pc' := 7) (ls' := [some (.ref r0), some (.int x1), some (.int x2), some (.int x3)]) (st' := [.ref r0, .ref r0]) dX7_orderOfField_6 (fun _ => rfl) ?_
  refine r_g (pc' := 8) (ls' := [some (.ref r0), some (.int x1), some (.int x2), some (.int x3)]) (st' := [.int x1, .ref r0, .ref r0]) dX7_orderOfField_7 (fun _ => rfl) ?_
  refine r_g (pc' := 9) (ls' := [some (.ref r0), some (.int x1), some (.int x2), some (.int x3)]) (st' := [.int x3, .int x1, .ref r0, .ref r0]) dX7_orderOfField_8 (fun _ => rfl) ?_
  obtain ⟨hK, h⟩ := h
  exact r_call (th := false) dX7_orderOfField_9 (fun _ => ex_calV rfl (by decide)) rfl (Nat.le_of_ble_eq_true rfl) (Nat.le_of_ble_eq_true rfl) (Nat.le_of_ble_eq_true rfl) (rcv0 rfl rfl (by decide) hK) rfl rfl rfl (fun q => nomatch q) h
theorem b123_12 {g : Nat → Nat} {C S : Nat} {σ : PS} {Q : Rs → PS → Prop} {r0 : Nat} {l1 : Option Value} {x2 : Int32} {x3 : Int32} {u0 : Int32} {w1 : Nat}
    (h : zK σ w1 = 9 ∧ WP g C S 113 0 [some (.ref w1), some (.int u0), none] [] σ (KK g C S 123 15 [some (.ref r0), l1, some (.int x2), some (.int x3)] [] Q false)) :
    WP g C S 123 12 [some (.ref r0), l1, some (.int x2), some (.int x3)] [.int u0, .ref w1] σ Q := by
  obtain ⟨hK, h⟩ := h
  exact r_call (th := false) dX7_orderOfField_12 (fun _ => ex_calV rfl (by decide)) rfl (Nat.le_of_ble_eq_true rfl) (Nat.le_of_ble_eq_true rfl) (Nat.le_of_ble_eq_true rfl) (rcv0 rfl rfl (by decide) hK) rfl rfl rfl (fun q => nomatch q) h
theorem b123_15 {g : Nat → Nat} {C S : Nat} {σ : PS} {Q : Rs → PS → Prop} {r0 : Nat} {l1 : Option Value} {x2 : Int32} {x3 : Int32}
    (h : zK σ r0 = 9 ∧ WP g C S 119 0 [some (.ref r0), none] [] σ (KK g C S 123 19 [some (.ref r0), l1, some (.int x2), some (.int x3)] [] Q false)) :
    WP g C S 123 15 [some (.ref r0), l1, some (.int x2), some (.int x3)] [] σ Q := by
  refine r_g (pc' := 16) (ls' := [some (.ref r0), l1, some (.int x2), some (.int x3)]) (st' := [.ref r0]) dX7_orderOfField_15 (fun _ => rfl) ?_
  obtain ⟨hK, h⟩ := h
  exact r_call (th := false) dX7_orderOfField_16 (fun _ => ex_calV rfl (by decide)) rfl (Nat.le_of_ble_eq_true rfl) (Nat.le_of_ble_eq_true rfl) (Nat.le_of_ble_eq_true rfl) (rcv0 rfl rfl (by decide) hK) rfl rfl rfl (fun q => nomatch q) h
theorem b123_19 {g : Nat → Nat} {C S : Nat} {σ : PS} {Q : Rs → PS → Prop} {r0 : Nat} {l1 : Option Value} {x2 : Int32} {x3 : Int32}
    (h : zK σ r0 = 9 ∧ WP g C S 103 0 [some (.ref r0), some (.int x2), some (.int x3), none] [] σ (KK g C S 123 26 [some (.ref r0), l1, some (.int x2), some (.int x3)] [.ref r0] Q false)) :
    WP g C S 123 19 [some (.ref r0), l1, some (.int x2), some (.int x3)] [] σ Q := by
  refine r_g (pc' := 20) (ls' := [some (.ref r0), l1, some (.int x2), some (.int x3)]) (st' := [.ref r0]) dX7_orderOfField_19 (fun _ => rfl) ?_
  refine r_g (pc' := 21) (ls' := [some (.ref r0), l1, some (.int x2), some (.int x3)]) (st' := [.ref r0, .ref r0]) dX7_orderOfField_20 (fun _ => rfl) ?_
  refine r_g (pc' := 22) (ls' := [some (.ref r0), l1, some (.int x2), some (.int x3)]) (st' := [.int x2, .ref r0, .ref r0]) dX7_orderOfField_21 (fun _ => rfl) ?_
  refine r_g (pc' := 23) (ls' := [some (.ref r0), l1, some (.int x2), some (.int x3)]) (st' := [.int x3, .int x2, .ref r0, .ref r0]) dX7_orderOfField_22 (fun _ => rfl) ?_
  obtain ⟨hK, h⟩ := h
  exact r_call (th := false) dX7_orderOfField_23 (fun _ => ex_calV rfl (by decide)) rfl (Nat.le_of_ble_eq_true rfl) (Nat.le_of_ble_eq_true rfl) (Nat.le_of_ble_eq_true rfl) (rcv0 rfl rfl (by decide) hK) rfl rfl rfl (fun q => nomatch q) h
theorem b123_26 {g : Nat → Nat} {C S : Nat} {σ : PS} {Q : Rs → PS → Prop} {r0 : Nat} {l1 : Option Value} {l2 : Option Value} {l3 : Option Value} {u0 : Int32} {w1 : Nat}
    (h : zK σ w1 = 9 ∧ WP g C S 113 0 [some (.ref w1), some (.int u0), none] [] σ (KK g C S 123 29 [some (.ref r0), l1, l2, l3] [] Q false)) :
    WP g C S 123 26 [some (.ref r0), l1, l2, l3] [.int u0, .ref w1] σ Q := by
  obtain ⟨hK, h⟩ := h
  exact r_call (th := false) dX7_orderOfField_26 (fun _ => ex_calV rfl (by decide)) rfl (Nat.le_of_ble_eq_true rfl) (Nat.le_of_ble_eq_true rfl) (Nat.le_of_ble_eq_true rfl) (rcv0 rfl rfl (by decide) hK) rfl rfl rfl (fun q => nomatch q) h
theorem b123_29 {g : Nat → Nat} {C S : Nat} {σ : PS} {Q : Rs → PS → Prop} {r0 : Nat} {l1 : Option Value} {l2 : Option Value} {l3 : Option Value}
    (h : zK σ r0 = 9 ∧ WP g C S 120 0 [some (.ref r0), some (.int 1), none, none, none] [] σ (KK g C S 123 34 [some (.ref r0), l1, l2, l3] [] Q false)) :
    WP g C S 123 29 [some (.ref r0), l1, l2, l3] [] σ Q := by
  refine r_g (pc' := 30) (ls' := [some (.ref r0), l1, l2, l3]) (st' := [.ref r0]) dX7_orderOfField_29 (fun _ => rfl) ?_
  refine r_ic (v := 1) dX7_orderOfField_30 (by decide) ?_
  obtain ⟨hK, h⟩ := h
  exact r_call (th := false) dX7_orderOfField_31 (fun _ => ex_calV rfl (by decide)) rfl (Nat.le_of_ble_eq_true rfl) (Nat.le_of_ble_eq_true rfl) (Nat.le_of_ble_eq_true rfl) (rcv0 rfl rfl (by decide) hK) rfl rfl rfl (fun q => nomatch q) h
theorem b123_34 {g : Nat → Nat} {C S : Nat} {σ : PS} {Q : Rs → PS → Prop} {l0 : Option Value} {l1 : Option Value} {l2 : Option Value} {l3 : Option Value} {u0 : Int32}
    (h : Q (Sum.inl (some (.int u0))) σ) :
    WP g C S 123 34 [l0, l1, l2, l3] [.int u0] σ Q := by
  exact r_ret dX7_orderOfField_34 rfl h
theorem b124_0 {g : Nat → Nat} {C S : Nat} {σ : PS} {Q : Rs → PS → Prop} {r0 : Nat} {x1 : Int32} {x2 : Int32} {l3 : Option Value}
    (h : zK σ r0 = 9 ∧ (¬ (zI σ r0 11 : Int32) = 1 → zK σ r0 = 9 ∧ WP g C S 123 0 [some (.ref r0), some (.int x1), some (.int x2), some (.int 2)] [] σ (KK g C S 124 24 [some (.ref r0), some (.int x1), some (.int x2), l3] [] Q false)) ∧ (¬ (¬ (zI σ r0 11 : Int32) = 1) → zK σ r0 = 9 ∧ WP g C S 122 0 [some (.ref r0), some (.int x1), some (.int x2), none, none] [] σ (KK g C S 124 14 [some (.ref r0), some (.int x1), some (.int x2), l3] [] Q false))) :
    WP g C S 124 0 [some (.ref r0), some (.int x1), some (.int x2), l3] [] σ Q := by
  refine r_g (pc' := 1) (ls' := [some (.ref r0), some (.int x1), some (.int x2), l3]) (st' := [.ref r0]) dX7_orderOf_0 (fun _ => rfl) ?_
  obtain ⟨hK, h⟩ := h
  refine r_getI dX7_orderOf_1 rfl (by decide) rfl hK ?_
  refine r_ic (v := 1) dX7_orderOf_4 (by decide) ?_
  obtain ⟨h1, h2⟩ := h
  refine r_icmp (t := 17) dX7_orderOf_5 (by decide) c_ne (fun c => ?_) (fun c => ?_)
  · have h := h1 c
    refine r_g (pc' := 18) (ls' := [some (.ref r0), some (.int x1), some (.int x2), l3]) (st' := [.ref r0]) dX7_orderOf_17 (fun _ => rfl) ?_
    refine r_g (pc' := 19) (ls' := [some (.ref r0), some (.int x1), some (.int x2), l3]) (st' := [.int x1, .ref r0]) dX7_orderOf_18 (fun _ => rfl) ?_
    refine r_g (pc' := 20) (ls' := [some (.ref r0), some (.int x1), some (.int x2), l3]) (st' := [.int x2, .int x1, .ref r0]) dX7_orderOf_19 (fun _ => rfl) ?_
    refine r_ic (v := 2) dX7_orderOf_20 (by decide) ?_
    obtain ⟨hK, h⟩ := h
    exact r_call (th := false) dX7_orderOf_21 (fun _ => ex_calV rfl (by decide)) rfl (Nat.le_of_ble_eq_true rfl) (Nat.le_of_ble_eq_true rfl) (Nat.le_of_ble_eq_true rfl) (rcv0 rfl rfl (by decide) hK) rfl rfl rfl (fun q => nomatch q) h
  · have h := h2 c
    refine r_g (pc' := 9) (ls' := [some (.ref r0), some (.int x1), some (.int x2), l3]) (st' := [.ref r0]) dX7_orderOf_8 (fun _ => rfl) ?_
    refine r_g (pc' := 10) (ls' := [some (.ref r0), some (.int x1), some (.int x2), l3]) (st' := [.int x1, .ref r0]) dX7_orderOf_9 (fun _ => rfl) ?_
    refine r_g (pc' := 11) (ls' := [some (.ref r0), some (.int x1), some (.int x2), l3]) (st' := [.int x2, .int x1, .ref r0]) dX7_orderOf_10 (fun _ => rfl) ?_
    obtain ⟨hK, h⟩ := h
    exact r_call (th := false) dX7_orderOf_11 (fun _ => ex_calV rfl (by decide)) rfl (Nat.le_of_ble_eq_true rfl) (Nat.le_of_ble_eq_true rfl) (Nat.le_of_ble_eq_true rfl) (rcv0 rfl rfl (by decide) hK) rfl rfl rfl (fun q => nomatch q) h
theorem b124_14 {g : Nat → Nat} {C S : Nat} {σ : PS} {Q : Rs → PS → Prop} {r0 : Nat} {x1 : Int32} {x2 : Int32} {l3 : Option Value} {u0 : Int32}
    (h : WP g C S 124 24 [some (.ref r0), some (.int x1), some (.int x2), l3] [.int u0] σ Q) :
    WP g C S 124 14 [some (.ref r0), some (.int x1), some (.int x2), l3] [.int u0] σ Q := by
  refine r_goto (t := 24) dX7_orderOf_14 (by decide) ?_
  exact h
theorem b124_24 {g : Nat → Nat} {C S : Nat} {σ : PS} {Q : Rs → PS → Prop} {r0 : Nat} {x1 : Int32} {x2 : Int32} {l3 : Option Value} {u0 : Int32}
    (h : ((u0 : Int32) = 0 → zK σ r0 = 9 ∧ (¬ (zI σ r0 11 : Int32) = 1 → zK σ r0 = 9 ∧ WP g C S 122 0 [some (.ref r0), some (.int x1), some (.int x2), none, none] [] σ (KK g C S 124 57 [some (.ref r0), some (.int x1), some (.int x2), some (.int u0)] [] Q false)) ∧ (¬ (¬ (zI σ r0 11 : Int32) = 1) → zK σ r0 = 9 ∧ WP g C S 123 0 [some (.ref r0), some (.int x1), some (.int x2), some (.int 2)] [] σ (KK g C S 124 48 [some (.ref r0), some (.int x1), some (.int x2), some (.int u0)] [] Q false))) ∧ (¬ ((u0 : Int32) = 0) → WP g C S 124 57 [some (.ref r0), some (.int x1), some (.int x2), some (.int u0)] [.int u0] σ Q)) :
    WP g C S 124 24 [some (.ref r0), some (.int x1), some (.int x2), l3] [.int u0] σ Q := by
  refine r_g (pc' := 25) (ls' := [some (.ref r0), some (.int x1), some (.int x2), some (.int u0)]) (st' := []) dX7_orderOf_24 (fun _ => rfl) ?_
  refine r_g (pc' := 26) (ls' := [some (.ref r0), some (.int x1), some (.int x2), some (.int u0)]) (st' := [.int u0]) dX7_orderOf_25 (fun _ => rfl) ?_
  obtain ⟨h1, h2⟩ := h
  refine r_if (t := 33) dX7_orderOf_26 (by decide) c_eq (fun c => ?_) (fun c => ?_)
  · have h := h1 c
    refine r_g (pc' := 34) (ls' := [some (.ref r0), some (.int x1), some (.int x2), some (.int u0)]) (st' := [.ref r0]) dX7_orderOf_33 (fun _ => rfl) ?_
    obtain ⟨hK, h⟩ := h
    refine r_getI dX7_orderOf_34 rfl (by decide) rfl hK ?_
    refine r_ic (v := 1) dX7_orderOf_37 (by decide) ?_
    obtain ⟨h1, h2⟩ := h
    refine r_icmp (t := 51) dX7_orderOf_38 (by decide) c_ne (fun c => ?_) (fun c => ?_)
    · have h := h1 c
      refine r_g (pc' := 52) (ls' := [some (.ref r0), some (.int x1), some (.int x2), some (.int u0)]) (st' := [.ref r0]) dX7_orderOf_51 (fun _ => rfl) ?_
      refine r_g (pc' := 53) (ls' := [some (.ref r0), some (.int x1), some (.int x2), some (.int u0)]) (st' := [.int x1, .ref r0]) dX7_orderOf_52 (fun _ => rfl) ?_
      refine r_g (pc' := 54) (ls' := [some (.ref r0), some (.int x1), some (.int x2), some (.int u0)]) (st' := [.int x2, .int x1, .ref r0]) dX7_orderOf_53 (fun _ => rfl) ?_
      obtain ⟨hK, h⟩ := h
      exact r_call (th := false) dX7_orderOf_54 (fun _ => ex_calV rfl (by decide)) rfl (Nat.le_of_ble_eq_true rfl) (Nat.le_of_ble_eq_true rfl) (Nat.le_of_ble_eq_true rfl) (rcv0 rfl rfl (by decide) hK) rfl rfl rfl (fun q => nomatch q) h
    · have h := h2 c
      refine r_g (pc' := 42) (ls' := [some (.ref r0), some (.int x1), some (.int x2), some (.int u0)]) (st' := [.ref r0]) dX7_orderOf_41 (fun _ => rfl) ?_
      refine r_g (pc' := 43) (ls' := [some (.ref r0), some (.int x1), some (.int x2), some (.int u0)]) (st' := [.int x1, .ref r0]) dX7_orderOf_42 (fun _ => rfl) ?_
      refine r_g (pc' := 44) (ls' := [some (.ref r0), some (.int x1), some (.int x2), some (.int u0)]) (st' := [.int x2, .int x1, .ref r0]) dX7_orderOf_43 (fun _ => rfl) ?_
      refine r_ic (v := 2) dX7_orderOf_44 (by decide) ?_
      obtain ⟨hK, h⟩ := h
      exact r_call (th := false) dX7_orderOf_45 (fun _ => ex_calV rfl (by decide)) rfl (Nat.le_of_ble_eq_true rfl) (Nat.le_of_ble_eq_true rfl) (Nat.le_of_ble_eq_true rfl) (rcv0 rfl rfl (by decide) hK) rfl rfl rfl (fun q => nomatch q) h
  · have h := h2 c
    refine r_g (pc' := 30) (ls' := [some (.ref r0), some (.int x1), some (.int x2), some (.int u0)]) (st' := [.int u0]) dX7_orderOf_29 (fun _ => rfl) ?_
    refine r_goto (t := 57) dX7_orderOf_30 (by decide) ?_
    exact h
theorem b124_48 {g : Nat → Nat} {C S : Nat} {σ : PS} {Q : Rs → PS → Prop} {r0 : Nat} {x1 : Int32} {x2 : Int32} {l3 : Option Value} {u0 : Int32}
    (h : WP g C S 124 57 [some (.ref r0), some (.int x1), some (.int x2), l3] [.int u0] σ Q) :
    WP g C S 124 48 [some (.ref r0), some (.int x1), some (.int x2), l3] [.int u0] σ Q := by
  refine r_goto (t := 57) dX7_orderOf_48 (by decide) ?_
  exact h
theorem b124_57 {g : Nat → Nat} {C S : Nat} {σ : PS} {Q : Rs → PS → Prop} {r0 : Nat} {x1 : Int32} {x2 : Int32} {l3 : Option Value} {u0 : Int32}
    (h : ((u0 : Int32) = 0 → zK σ r0 = 9 ∧ WP g C S 123 0 [some (.ref r0), some (.int x1), some (.int x2), some (.int 1)] [] σ (KK g C S 124 73 [some (.ref r0), some (.int x1), some (.int x2), some (.int u0)] [] Q false)) ∧ (¬ ((u0 : Int32) = 0) → WP g C S 124 73 [some (.ref r0), some (.int x1), some (.int x2), some (.int u0)] [.int u0] σ Q)) :
    WP g C S 124 57 [some (.ref r0), some (.int x1), some (.int x2), l3] [.int u0] σ Q := by
  refine r_g (pc' := 58) (ls' := [some (.ref r0), some (.int x1), some (.int x2), some (.int u0)]) (st' := []) dX7_orderOf_57 (fun _ => rfl) ?_
  refine r_g (pc' := 59) (ls' := [some (.ref r0), some (.int x1), some (.int x2), some (.int u0)]) (st' := [.int u0]) dX7_orderOf_58 (fun _ => rfl) ?_
  obtain ⟨h1, h2⟩ := h
  refine r_if (t := 66) dX7_orderOf_59 (by decide) c_eq (fun c => ?_) (fun c => ?_)
  · have h := h1 c
    refine r_g (pc' := 67) (ls' := [some (.ref r0), some (.int x1), some (.int x2), some (.int u0)]) (st' := [.ref r0]) dX7_orderOf_66 (fun _ => rfl) ?_
    refine r_g (pc' := 68) (ls' := [some (.ref r0), some (.int x1), some (.int x2), some (.int u0)]) (st' := [.int x1, .ref r0]) dX7_orderOf_67 (fun _ => rfl) ?_
    refine r_g (pc' := 69) (ls' := [some (.ref r0), some (.int x1), some (.int x2), some (.int u0)]) (st' := [.int x2, .int x1, .ref r0]) dX7_orderOf_68 (fun _ => rfl) ?_
    refine r_ic (v := 1) dX7_orderOf_69 (by decide) ?_
    obtain ⟨hK, h⟩ := h
    exact r_call (th := false) dX7_orderOf_70 (fun _ => ex_calV rfl (by decide)) rfl (Nat.le_of_ble_eq_true rfl) (Nat.le_of_ble_eq_true rfl) (Nat.le_of_ble_eq_true rfl) (rcv0 rfl rfl (by decide) hK) rfl rfl rfl (fun q => nomatch q) h
  · have h := h2 c
    refine r_g (pc' := 63) (ls' := [some (.ref r0), some (.int x1), some (.int x2), some (.int u0)]) (st' := [.int u0]) dX7_orderOf_62 (fun _ => rfl) ?_
    refine r_goto (t := 73) dX7_orderOf_63 (by decide) ?_
    exact h
theorem b124_73 {g : Nat → Nat} {C S : Nat} {σ : PS} {Q : Rs → PS → Prop} {l0 : Option Value} {l1 : Option Value} {l2 : Option Value} {l3 : Option Value} {u0 : Int32}
    (h : Q (Sum.inl (some (.int u0))) σ) :
    WP g C S 124 73 [l0, l1, l2, l3] [.int u0] σ Q := by
  exact r_ret dX7_orderOf_73 rfl h
theorem b125_0 {g : Nat → Nat} {C S : Nat} {σ : PS} {Q : Rs → PS → Prop} {r0 : Nat} {l1 : Option Value} {l2 : Option Value} {l3 : Option Value} {l4 : Option Value}
    (h : zK σ r0 = 9 ∧ (∀ τ1, τ1 = stI σ r0 25 0 → WP g C S 125 7 [some (.ref r0), some (.int 0), l2, l3, l4] [] τ1 Q)) :
    WP g C S 125 0 [some (.ref r0), l1, l2, l3, l4] [] σ Q := by
  refine r_g (pc' := 1) (ls' := [some (.ref r0), l1, l2, l3, l4]) (st' := [.ref r0]) dX7_list_0 (fun _ => rfl) ?_
  refine r_ic (v := 0) dX7_list_1 (by decide) ?_
  obtain ⟨hK, h⟩ := h
  refine r_putI dX7_list_2 rfl (by decide) (Or.inl rfl) rfl (Or.inl rfl) hK ?_
  generalize eτ1 : stI σ r0 25 0 = τ1
  replace h := h _ eτ1.symm
  refine r_ic (v := 0) dX7_list_5 (by decide) ?_
  refine r_g (pc' := 7) (ls' := [some (.ref r0), some (.int 0), l2, l3, l4]) (st' := []) dX7_list_6 (fun _ => rfl) ?_
  exact h
theorem b125_7 {g : Nat → Nat} {C S : Nat} {σ : PS} {Q : Rs → PS → Prop} {r0 : Nat} {x1 : Int32} {l2 : Option Value} {l3 : Option Value} {l4 : Option Value}
    (h : zK σ r0 = 9 ∧ ((zI σ r0 9 : Int32) ≤ x1 → WP g C S 125 99 [some (.ref r0), some (.int 1), l2, l3, l4] [] σ Q) ∧ (¬ ((zI σ r0 9 : Int32) ≤ x1) → zK σ r0 = 9 ∧ ∃ b1, zP σ r0 10 = some b1 ∧ (∃ n2 : Nat, x1 = nI n2 ∧ n2 < 2147483648 ∧ (zK σ b1 = 101 ∨ zK σ b1 = 1002) ∧ n2 < zL σ b1 ∧ (zK σ r0 = 9 ∧ WP g C S 104 0 [some (.ref r0), some (.int (zI σ b1 n2)), none, none, none] [] σ (KK g C S 125 25 [some (.ref r0), some (.int x1), l2, l3, l4] [] Q false))))) :
    WP g C S 125 7 [some (.ref r0), some (.int x1), l2, l3, l4] [] σ Q := by
  refine r_g (pc' := 8) (ls' := [some (.ref r0), some (.int x1), l2, l3, l4]) (st' := [.int x1]) dX7_list_7 (fun _ => rfl) ?_
  refine r_g (pc' := 9) (ls' := [some (.ref r0), some (.int x1), l2, l3, l4]) (st' := [.ref r0, .int x1]) dX7_list_8 (fun _ => rfl) ?_
  obtain ⟨hK, h⟩ := h
  refine r_getI dX7_list_9 rfl (by decide) rfl hK ?_
  obtain ⟨h1, h2⟩ := h
  refine r_icmp (t := 97) dX7_list_12 (by decide) c_ge (fun c => ?_) (fun c => ?_)
  · have h := h1 c
    refine r_ic (v := 1) dX7_list_97 (by decide) ?_
    refine r_g (pc' := 99) (ls' := [some (.ref r0), some (.int 1), l2, l3, l4]) (st' := []) dX7_list_98 (fun _ => rfl) ?_
    exact h
  · have h := h2 c
    refine r_g (pc' := 16) (ls' := [some (.ref r0), some (.int x1), l2, l3, l4]) (st' := [.ref r0]) dX7_list_15 (fun _ => rfl) ?_
    refine r_g (pc' := 17) (ls' := [some (.ref r0), some (.int x1), l2, l3, l4]) (st' := [.ref r0, .ref r0]) dX7_list_16 (fun _ => rfl) ?_
    obtain ⟨hK, b1, hP, h⟩ := h
    refine r_getP dX7_list_17 rfl (by decide) rfl hK hP ?_
    refine r_g (pc' := 21) (ls' := [some (.ref r0), some (.int x1), l2, l3, l4]) (st' := [.int x1, .ref b1, .ref r0]) dX7_list_20 (fun _ => rfl) ?_
    obtain ⟨n2, hj, hn, hK, hL, h⟩ := h
    refine r_iald dX7_list_21 hj hn hK hL ?_
    obtain ⟨hK, h⟩ := h
    exact r_call (th := false) dX7_list_22 (fun _ => ex_calV rfl (by decide)) rfl (Nat.le_of_ble_eq_true rfl) (Nat.le_of_ble_eq_true rfl) (Nat.le_of_ble_eq_true rfl) (rcv0 rfl rfl (by decide) hK) rfl rfl rfl (fun q => nomatch q) h
theorem b125_25 {g : Nat → Nat} {C S : Nat} {σ : PS} {Q : Rs → PS → Prop} {r0 : Nat} {x1 : Int32} {l2 : Option Value} {l3 : Option Value} {l4 : Option Value} {u0 : Int32}
    (h : WP g C S 125 31 [some (.ref r0), some (.int x1), some (.int u0), some (.int 0), some (.int 0)] [] σ Q) :
    WP g C S 125 25 [some (.ref r0), some (.int x1), l2, l3, l4] [.int u0] σ Q := by
  refine r_g (pc' := 26) (ls' := [some (.ref r0), some (.int x1), some (.int u0), l3, l4]) (st' := []) dX7_list_25 (fun _ => rfl) ?_
  refine r_ic (v := 0) dX7_list_26 (by decide) ?_
  refine r_g (pc' := 28) (ls' := [some (.ref r0), some (.int x1), some (.int u0), some (.int 0), l4]) (st' := []) dX7_list_27 (fun _ => rfl) ?_
  refine r_ic (v := 0) dX7_list_28 (by decide) ?_
  refine r_g (pc' := 31) (ls' := [some (.ref r0), some (.int x1), some (.int u0), some (.int 0), some (.int 0)]) (st' := []) dX7_list_29 (fun _ => rfl) ?_
  exact h
theorem b125_31 {g : Nat → Nat} {C S : Nat} {σ : PS} {Q : Rs → PS → Prop} {r0 : Nat} {x1 : Int32} {x2 : Int32} {x3 : Int32} {x4 : Int32}
    (h : zK σ r0 = 9 ∧ ((zI σ r0 25 : Int32) ≤ x4 → (¬ (x3 : Int32) = 0 → WP g C S 125 91 [some (.ref r0), some (.int x1), some (.int x2), some (.int x3), some (.int x4)] [] σ Q) ∧ (¬ (¬ (x3 : Int32) = 0) → zK σ r0 = 9 ∧ ∃ b1, zP σ r0 26 = some b1 ∧ (zK σ r0 = 9 ∧ ∃ n2 : Nat, zI σ r0 25 = nI n2 ∧ n2 < 2147483648 ∧ zK σ b1 = 101 ∧ n2 < zL σ b1 ∧ (∀ τ3, τ3 = stI σ b1 n2 x2 → zK τ3 r0 = 9 ∧ zK τ3 r0 = 9 ∧ (∀ τ4, τ4 = stI τ3 r0 25 ((zI τ3 r0 25) + 1) → WP g C S 125 91 [some (.ref r0), some (.int x1), some (.int x2), some (.int x3), some (.int x4)] [] τ4 Q))))) ∧ (¬ ((zI σ r0 25 : Int32) ≤ x4) → (¬ (x3 : Int32) = 0 → WP g C S 125 55 [some (.ref r0), some (.int x1), some (.int x2), some (.int x3), some (.int x4)] [] σ Q) ∧ (¬ (¬ (x3 : Int32) = 0) → zK σ r0 = 9 ∧ ∃ b5, zP σ r0 26 = some b5 ∧ (∃ n6 : Nat, x4 = nI n6 ∧ n6 < 2147483648 ∧ (zK σ b5 = 101 ∨ zK σ b5 = 1002) ∧ n6 < zL σ b5 ∧ ((¬ (zI σ b5 n6 : Int32) = x2 → WP g C S 125 60 [some (.ref r0), some (.int x1), some (.int x2), some (.int x3), some (.int x4)] [.int 0] σ Q) ∧ (¬ (¬ (zI σ b5 n6 : Int32) = x2) → WP g C S 125 55 [some (.ref r0), some (.int x1), some (.int x2), some (.int x3), some (.int x4)] [] σ Q)))))) :
    WP g C S 125 31 [some (.ref r0), some (.int x1), some (.int x2), some (.int x3), some (.int x4)] [] σ Q := by
  refine r_g (pc' := 33) (ls' := [some (.ref r0), some (.int x1), some (.int x2), some (.int x3), some (.int x4)]) (st' := [.int x4]) dX7_list_31 (fun _ => rfl) ?_
  refine r_g (pc' := 34) (ls' := [some (.ref r0), some (.int x1), some (.int x2), some (.int x3), some (.int x4)]) (st' := [.ref r0, .int x4]) dX7_list_33 (fun _ => rfl) ?_
  obtain ⟨hK, h⟩ := h
  refine r_getI dX7_list_34 rfl (by decide) rfl hK ?_
  obtain ⟨h1, h2⟩ := h
  refine r_icmp (t := 67) dX7_list_37 (by decide) c_ge (fun c => ?_) (fun c => ?_)
  · have h := h1 c
    refine r_g (pc' := 68) (ls' := [some (.ref r0), some (.int x1), some (.int x2), some (.int x3), some (.int x4)]) (st' := [.int x3]) dX7_list_67 (fun _ => rfl) ?_
    obtain ⟨h1, h2⟩ := h
    refine r_if (t := 91) dX7_list_68 (by decide) c_ne (fun c => ?_) (fun c => ?_)
    · have h := h1 c
      exact h
    · have h := h2 c
      refine r_g (pc' := 72) (ls' := [some (.ref r0), some (.int x1), some (.int x2), some (.int x3), some (.int x4)]) (st' := [.ref r0]) dX7_list_71 (fun _ => rfl) ?_
      obtain ⟨hK, b1, hP, h⟩ := h
      refine r_getP dX7_list_72 rfl (by decide) rfl hK hP ?_
      refine r_g (pc' := 76) (ls' := [some (.ref r0), some (.int x1), some (.int x2), some (.int x3), some (.int x4)]) (st' := [.ref r0, .ref b1]) dX7_list_75 (fun _ => rfl) ?_
      obtain ⟨hK, h⟩ := h
      refine r_getI dX7_list_76 rfl (by decide) rfl hK ?_
      refine r_g (pc' := 80) (ls' := [some (.ref r0), some (.int x1), some (.int x2), some (.int x3), some (.int x4)]) (st' := [.int x2, .int (zI σ r0 25), .ref b1]) dX7_list_79 (fun _ => rfl) ?_
      obtain ⟨n2, hj, hn, hK, hL, h⟩ := h
      refine r_iast dX7_list_80 hj hn hK hL ?_
      generalize eτ3 : stI σ b1 n2 x2 = τ3
      replace h := h _ eτ3.symm
      refine r_g (pc' := 82) (ls' := [some (.ref r0), some (.int x1), some (.int x2), some (.int x3), some (.int x4)]) (st' := [.ref r0]) dX7_list_81 (fun _ => rfl) ?_
      refine r_g (pc' := 83) (ls' := [some (.ref r0), some (.int x1), some (.int x2), some (.int x3), some (.int x4)]) (st' := [.ref r0, .ref r0]) dX7_list_82 (fun _ => rfl) ?_
      obtain ⟨hK, h⟩ := h
      refine r_getI dX7_list_83 rfl (by decide) rfl hK ?_
      refine r_ic (v := 1) dX7_list_86 (by decide) ?_
      refine r_g (pc' := 88) (ls' := [some (.ref r0), some (.int x1), some (.int x2), some (.int x3), some (.int x4)]) (st' := [.int ((zI τ3 r0 25) + 1), .ref r0]) dX7_list_87 (fun _ => rfl) ?_
      obtain ⟨hK, h⟩ := h
      refine r_putI dX7_list_88 rfl (by decide) (Or.inl rfl) rfl (Or.inl rfl) hK ?_
      generalize eτ4 : stI τ3 r0 25 ((zI τ3 r0 25) + 1) = τ4
      replace h := h _ eτ4.symm
      exact h
  · have h := h2 c
    refine r_g (pc' := 41) (ls' := [some (.ref r0), some (.int x1), some (.int x2), some (.int x3), some (.int x4)]) (st' := [.int x3]) dX7_list_40 (fun _ => rfl) ?_
    obtain ⟨h1, h2⟩ := h
    refine r_if (t := 55) dX7_list_41 (by decide) c_ne (fun c => ?_) (fun c => ?_)
    · have h := h1 c
      exact h
    · have h := h2 c
      refine r_g (pc' := 45) (ls' := [some (.ref r0), some (.int x1), some (.int x2), some (.int x3), some (.int x4)]) (st' := [.ref r0]) dX7_list_44 (fun _ => rfl) ?_
      obtain ⟨hK, b5, hP, h⟩ := h
      refine r_getP dX7_list_45 rfl (by decide) rfl hK hP ?_
      refine r_g (pc' := 50) (ls' := [some (.ref r0), some (.int x1), some (.int x2), some (.int x3), some (.int x4)]) (st' := [.int x4, .ref b5]) dX7_list_48 (fun _ => rfl) ?_
      obtain ⟨n6, hj, hn, hK, hL, h⟩ := h
      refine r_iald dX7_list_50 hj hn hK hL ?_
      refine r_g (pc' := 52) (ls' := [some (.ref r0), some (.int x1), some (.int x2), some (.int x3), some (.int x4)]) (st' := [.int x2, .int (zI σ b5 n6)]) dX7_list_51 (fun _ => rfl) ?_
      obtain ⟨h1, h2⟩ := h
      refine r_icmp (t := 59) dX7_list_52 (by decide) c_ne (fun c => ?_) (fun c => ?_)
      · have h := h1 c
        refine r_ic (v := 0) dX7_list_59 (by decide) ?_
        exact h
      · have h := h2 c
        exact h
theorem b125_55 {g : Nat → Nat} {C S : Nat} {σ : PS} {Q : Rs → PS → Prop} {r0 : Nat} {x1 : Int32} {x2 : Int32} {l3 : Option Value} {x4 : Int32}
    (h : WP g C S 125 60 [some (.ref r0), some (.int x1), some (.int x2), l3, some (.int x4)] [.int 1] σ Q) :
    WP g C S 125 55 [some (.ref r0), some (.int x1), some (.int x2), l3, some (.int x4)] [] σ Q := by
  refine r_ic (v := 1) dX7_list_55 (by decide) ?_
  refine r_goto (t := 60) dX7_list_56 (by decide) ?_
  exact h
theorem b125_60 {g : Nat → Nat} {C S : Nat} {σ : PS} {Q : Rs → PS → Prop} {r0 : Nat} {x1 : Int32} {x2 : Int32} {l3 : Option Value} {x4 : Int32} {u0 : Int32}
    (h : WP g C S 125 31 [some (.ref r0), some (.int x1), some (.int x2), some (.int u0), some (.int (x4 + 1))] [] σ Q) :
    WP g C S 125 60 [some (.ref r0), some (.int x1), some (.int x2), l3, some (.int x4)] [.int u0] σ Q := by
  refine r_g (pc' := 61) (ls' := [some (.ref r0), some (.int x1), some (.int x2), some (.int u0), some (.int x4)]) (st' := []) dX7_list_60 (fun _ => rfl) ?_
  refine r_inc (v := 1) (ls' := [some (.ref r0), some (.int x1), some (.int x2), some (.int u0), some (.int (x4 + 1))]) dX7_list_61 rfl (Nat.le_of_ble_eq_true rfl) (by decide) rfl ?_
  refine r_goto (t := 31) dX7_list_64 (by decide) ?_
  exact h
theorem b125_91 {g : Nat → Nat} {C S : Nat} {σ : PS} {Q : Rs → PS → Prop} {r0 : Nat} {x1 : Int32} {l2 : Option Value} {l3 : Option Value} {l4 : Option Value}
    (h : WP g C S 125 7 [some (.ref r0), some (.int (x1 + 1)), l2, l3, l4] [] σ Q) :
    WP g C S 125 91 [some (.ref r0), some (.int x1), l2, l3, l4] [] σ Q := by
  refine r_inc (v := 1) (ls' := [some (.ref r0), some (.int (x1 + 1)), l2, l3, l4]) dX7_list_91 rfl (Nat.le_of_ble_eq_true rfl) (by decide) rfl ?_
  refine r_goto (t := 7) dX7_list_94 (by decide) ?_
  exact h
theorem b125_99 {g : Nat → Nat} {C S : Nat} {σ : PS} {Q : Rs → PS → Prop} {r0 : Nat} {x1 : Int32} {l2 : Option Value} {l3 : Option Value} {l4 : Option Value}
    (h : zK σ r0 = 9 ∧ ((zI σ r0 25 : Int32) ≤ x1 → WP g C S 125 176 [some (.ref r0), some (.int x1), l2, l3, l4] [] σ Q) ∧ (¬ ((zI σ r0 25 : Int32) ≤ x1) → zK σ r0 = 9 ∧ ((zI σ r0 11 : Int32) ≤ 0 → WP g C S 125 176 [some (.ref r0), some (.int x1), l2, l3, l4] [] σ Q) ∧ (¬ ((zI σ r0 11 : Int32) ≤ 0) → zK σ r0 = 9 ∧ ∃ b1, zP σ r0 26 = some b1 ∧ (∃ n2 : Nat, x1 = nI n2 ∧ n2 < 2147483648 ∧ (zK σ b1 = 101 ∨ zK σ b1 = 1002) ∧ n2 < zL σ b1 ∧ (WP g C S 125 123 [some (.ref r0), some (.int x1), some (.int (zI σ b1 n2)), some (.int x1), l4] [] σ Q))))) :
    WP g C S 125 99 [some (.ref r0), some (.int x1), l2, l3, l4] [] σ Q := by
  refine r_g (pc' := 100) (ls' := [some (.ref r0), some (.int x1), l2, l3, l4]) (st' := [.int x1]) dX7_list_99 (fun _ => rfl) ?_
  refine r_g (pc' := 101) (ls' := [some (.ref r0), some (.int x1), l2, l3, l4]) (st' := [.ref r0, .int x1]) dX7_list_100 (fun _ => rfl) ?_
  obtain ⟨hK, h⟩ := h
  refine r_getI dX7_list_101 rfl (by decide) rfl hK ?_
  obtain ⟨h1, h2⟩ := h
  refine r_icmp (t := 176) dX7_list_104 (by decide) c_ge (fun c => ?_) (fun c => ?_)
  · have h := h1 c
    exact h
  · have h := h2 c
    refine r_g (pc' := 108) (ls' := [some (.ref r0), some (.int x1), l2, l3, l4]) (st' := [.ref r0]) dX7_list_107 (fun _ => rfl) ?_
    obtain ⟨hK, h⟩ := h
    refine r_getI dX7_list_108 rfl (by decide) rfl hK ?_
    obtain ⟨h1, h2⟩ := h
    refine r_if (t := 176) dX7_list_111 (by decide) c_le (fun c => ?_) (fun c => ?_)
    · have h := h1 c
      exact h
    · have h := h2 c
      refine r_g (pc' := 115) (ls' := [some (.ref r0), some (.int x1), l2, l3, l4]) (st' := [.ref r0]) dX7_list_114 (fun _ => rfl) ?_
      obtain ⟨hK, b1, hP, h⟩ := h
      refine r_getP dX7_list_115 rfl (by decide) rfl hK hP ?_
      refine r_g (pc' := 119) (ls' := [some (.ref r0), some (.int x1), l2, l3, l4]) (st' := [.int x1, .ref b1]) dX7_list_118 (fun _ => rfl) ?_
      obtain ⟨n2, hj, hn, hK, hL, h⟩ := h
      refine r_iald dX7_list_119 hj hn hK hL ?_
      refine r_g (pc' := 121) (ls' := [some (.ref r0), some (.int x1), some (.int (zI σ b1 n2)), l3, l4]) (st' := []) dX7_list_120 (fun _ => rfl) ?_
      refine r_g (pc' := 122) (ls' := [some (.ref r0), some (.int x1), some (.int (zI σ b1 n2)), l3, l4]) (st' := [.int x1]) dX7_list_121 (fun _ => rfl) ?_
      refine r_g (pc' := 123) (ls' := [some (.ref r0), some (.int x1), some (.int (zI σ b1 n2)), some (.int x1), l4]) (st' := []) dX7_list_122 (fun _ => rfl) ?_
      exact h
theorem b125_123 {g : Nat → Nat} {C S : Nat} {σ : PS} {Q : Rs → PS → Prop} {r0 : Nat} {x1 : Int32} {x2 : Int32} {x3 : Int32} {l4 : Option Value}
    (h : ((x3 : Int32) ≤ 0 → WP g C S 125 163 [some (.ref r0), some (.int x1), some (.int x2), some (.int x3), l4] [] σ Q) ∧ (¬ ((x3 : Int32) ≤ 0) → zK σ r0 = 9 ∧ ∃ b1, zP σ r0 26 = some b1 ∧ (∃ n2 : Nat, x3 - 1 = nI n2 ∧ n2 < 2147483648 ∧ (zK σ b1 = 101 ∨ zK σ b1 = 1002) ∧ n2 < zL σ b1 ∧ (zK σ r0 = 9 ∧ WP g C S 124 0 [some (.ref r0), some (.int (zI σ b1 n2)), some (.int x2), none] [] σ (KK g C S 125 140 [some (.ref r0), some (.int x1), some (.int x2), some (.int x3), l4] [] Q false))))) :
    WP g C S 125 123 [some (.ref r0), some (.int x1), some (.int x2), some (.int x3), l4] [] σ Q := by
  refine r_g (pc' := 124) (ls' := [some (.ref r0), some (.int x1), some (.int x2), some (.int x3), l4]) (st' := [.int x3]) dX7_list_123 (fun _ => rfl) ?_
  obtain ⟨h1, h2⟩ := h
  refine r_if (t := 163) dX7_list_124 (by decide) c_le (fun c => ?_) (fun c => ?_)
  · have h := h1 c
    exact h
  · have h := h2 c
    refine r_g (pc' := 128) (ls' := [some (.ref r0), some (.int x1), some (.int x2), some (.int x3), l4]) (st' := [.ref r0]) dX7_list_127 (fun _ => rfl) ?_
    refine r_g (pc' := 129) (ls' := [some (.ref r0), some (.int x1), some (.int x2), some (.int x3), l4]) (st' := [.ref r0, .ref r0]) dX7_list_128 (fun _ => rfl) ?_
    obtain ⟨hK, b1, hP, h⟩ := h
    refine r_getP dX7_list_129 rfl (by decide) rfl hK hP ?_
    refine r_g (pc' := 133) (ls' := [some (.ref r0), some (.int x1), some (.int x2), some (.int x3), l4]) (st' := [.int x3, .ref b1, .ref r0]) dX7_list_132 (fun _ => rfl) ?_
    refine r_ic (v := 1) dX7_list_133 (by decide) ?_
    refine r_g (pc' := 135) (ls' := [some (.ref r0), some (.int x1), some (.int x2), some (.int x3), l4]) (st' := [.int (x3 - 1), .ref b1, .ref r0]) dX7_list_134 (fun _ => rfl) ?_
    obtain ⟨n2, hj, hn, hK, hL, h⟩ := h
    refine r_iald dX7_list_135 hj hn hK hL ?_
    refine r_g (pc' := 137) (ls' := [some (.ref r0), some (.int x1), some (.int x2), some (.int x3), l4]) (st' := [.int x2, .int (zI σ b1 n2), .ref r0]) dX7_list_136 (fun _ => rfl) ?_
    obtain ⟨hK, h⟩ := h
    exact r_call (th := false) dX7_list_137 (fun _ => ex_calV rfl (by decide)) rfl (Nat.le_of_ble_eq_true rfl) (Nat.le_of_ble_eq_true rfl) (Nat.le_of_ble_eq_true rfl) (rcv0 rfl rfl (by decide) hK) rfl rfl rfl (fun q => nomatch q) h
theorem b125_140 {g : Nat → Nat} {C S : Nat} {σ : PS} {Q : Rs → PS → Prop} {r0 : Nat} {x1 : Int32} {x2 : Int32} {x3 : Int32} {l4 : Option Value} {u0 : Int32}
    (h : ((u0 : Int32) ≤ 0 → WP g C S 125 163 [some (.ref r0), some (.int x1), some (.int x2), some (.int x3), l4] [] σ Q) ∧ (¬ ((u0 : Int32) ≤ 0) → zK σ r0 = 9 ∧ ∃ b1, zP σ r0 26 = some b1 ∧ (zK σ r0 = 9 ∧ ∃ b2, zP σ r0 26 = some b2 ∧ (∃ n3 : Nat, x3 - 1 = nI n3 ∧ n3 < 2147483648 ∧ (zK σ b2 = 101 ∨ zK σ b2 = 1002) ∧ n3 < zL σ b2 ∧ (∃ n4 : Nat, x3 = nI n4 ∧ n4 < 2147483648 ∧ zK σ b1 = 101 ∧ n4 < zL σ b1 ∧ (∀ τ5, τ5 = stI σ b1 n4 (zI σ b2 n3) → WP g C S 125 123 [some (.ref r0), some (.int x1), some (.int x2), some (.int (x3 + (-1))), l4] [] τ5 Q)))))) :
    WP g C S 125 140 [some (.ref r0), some (.int x1), some (.int x2), some (.int x3), l4] [.int u0] σ Q := by
  obtain ⟨h1, h2⟩ := h
  refine r_if (t := 163) dX7_list_140 (by decide) c_le (fun c => ?_) (fun c => ?_)
  · have h := h1 c
    exact h
  · have h := h2 c
    refine r_g (pc' := 144) (ls' := [some (.ref r0), some (.int x1), some (.int x2), some (.int x3), l4]) (st' := [.ref r0]) dX7_list_143 (fun _ => rfl) ?_
    obtain ⟨hK, b1, hP, h⟩ := h
    refine r_getP dX7_list_144 rfl (by decide) rfl hK hP ?_
    refine r_g (pc' := 148) (ls' := [some (.ref r0), some (.int x1), some (.int x2), some (.int x3), l4]) (st' := [.int x3, .ref b1]) dX7_list_147 (fun _ => rfl) ?_
    refine r_g (pc' := 149) (ls' := [some (.ref r0), some (.int x1), some (.int x2), some (.int x3), l4]) (st' := [.ref r0, .int x3, .ref b1]) dX7_list_148 (fun _ => rfl) ?_
    obtain ⟨hK, b2, hP, h⟩ := h
    refine r_getP dX7_list_149 rfl (by decide) rfl hK hP ?_
    refine r_g (pc' := 153) (ls' := [some (.ref r0), some (.int x1), some (.int x2), some (.int x3), l4]) (st' := [.int x3, .ref b2, .int x3, .ref b1]) dX7_list_152 (fun _ => rfl) ?_
    refine r_ic (v := 1) dX7_list_153 (by decide) ?_
    refine r_g (pc' := 155) (ls' := [some (.ref r0), some (.int x1), some (.int x2), some (.int x3), l4]) (st' := [.int (x3 - 1), .ref b2, .int x3, .ref b1]) dX7_list_154 (fun _ => rfl) ?_
    obtain ⟨n3, hj, hn, hK, hL, h⟩ := h
    refine r_iald dX7_list_155 hj hn hK hL ?_
    obtain ⟨n4, hj, hn, hK, hL, h⟩ := h
    refine r_iast dX7_list_156 hj hn hK hL ?_
    generalize eτ5 : stI σ b1 n4 (zI σ b2 n3) = τ5
    replace h := h _ eτ5.symm
    refine r_inc (v := -1) (ls' := [some (.ref r0), some (.int x1), some (.int x2), some (.int (x3 + (-1))), l4]) dX7_list_157 rfl (Nat.le_of_ble_eq_true rfl) (by decide) rfl ?_
    refine r_goto (t := 123) dX7_list_160 (by decide) ?_
    exact h
theorem b125_163 {g : Nat → Nat} {C S : Nat} {σ : PS} {Q : Rs → PS → Prop} {r0 : Nat} {x1 : Int32} {x2 : Int32} {x3 : Int32} {l4 : Option Value}
    (h : zK σ r0 = 9 ∧ ∃ b1, zP σ r0 26 = some b1 ∧ (∃ n2 : Nat, x3 = nI n2 ∧ n2 < 2147483648 ∧ zK σ b1 = 101 ∧ n2 < zL σ b1 ∧ (∀ τ3, τ3 = stI σ b1 n2 x2 → WP g C S 125 99 [some (.ref r0), some (.int (x1 + 1)), some (.int x2), some (.int x3), l4] [] τ3 Q))) :
    WP g C S 125 163 [some (.ref r0), some (.int x1), some (.int x2), some (.int x3), l4] [] σ Q := by
  refine r_g (pc' := 164) (ls' := [some (.ref r0), some (.int x1), some (.int x2), some (.int x3), l4]) (st' := [.ref r0]) dX7_list_163 (fun _ => rfl) ?_
  obtain ⟨hK, b1, hP, h⟩ := h
  refine r_getP dX7_list_164 rfl (by decide) rfl hK hP ?_
  refine r_g (pc' := 168) (ls' := [some (.ref r0), some (.int x1), some (.int x2), some (.int x3), l4]) (st' := [.int x3, .ref b1]) dX7_list_167 (fun _ => rfl) ?_
  refine r_g (pc' := 169) (ls' := [some (.ref r0), some (.int x1), some (.int x2), some (.int x3), l4]) (st' := [.int x2, .int x3, .ref b1]) dX7_list_168 (fun _ => rfl) ?_
  obtain ⟨n2, hj, hn, hK, hL, h⟩ := h
  refine r_iast dX7_list_169 hj hn hK hL ?_
  generalize eτ3 : stI σ b1 n2 x2 = τ3
  replace h := h _ eτ3.symm
  refine r_inc (v := 1) (ls' := [some (.ref r0), some (.int (x1 + 1)), some (.int x2), some (.int x3), l4]) dX7_list_170 rfl (Nat.le_of_ble_eq_true rfl) (by decide) rfl ?_
  refine r_goto (t := 99) dX7_list_173 (by decide) ?_
  exact h
theorem b125_176 {g : Nat → Nat} {C S : Nat} {σ : PS} {Q : Rs → PS → Prop} {l0 : Option Value} {l1 : Option Value} {l2 : Option Value} {l3 : Option Value} {l4 : Option Value}
    (h : Q (Sum.inl none) σ) :
    WP g C S 125 176 [l0, l1, l2, l3, l4] [] σ Q := by
  exact r_vret dX7_list_176 rfl h
theorem b126_0 {g : Nat → Nat} {C S : Nat} {σ : PS} {Q : Rs → PS → Prop} {r0 : Nat} {x1 : Int32} {l2 : Option Value} {l3 : Option Value}
    (h : WP g C S 126 4 [some (.ref r0), some (.int x1), some (.int 0), some (.int 0)] [] σ Q) :
    WP g C S 126 0 [some (.ref r0), some (.int x1), l2, l3] [] σ Q := by
  refine r_ic (v := 0) dX7_isAlike_0 (by decide) ?_
  refine r_g (pc' := 2) (ls' := [some (.ref r0), some (.int x1), some (.int 0), l3]) (st' := []) dX7_isAlike_1 (fun _ => rfl) ?_
  refine r_ic (v := 0) dX7_isAlike_2 (by decide) ?_
  refine r_g (pc' := 4) (ls' := [some (.ref r0), some (.int x1), some (.int 0), some (.int 0)]) (st' := []) dX7_isAlike_3 (fun _ => rfl) ?_
  exact h
theorem b126_4 {g : Nat → Nat} {C S : Nat} {σ : PS} {Q : Rs → PS → Prop} {r0 : Nat} {x1 : Int32} {x2 : Int32} {x3 : Int32}
    (h : zK σ r0 = 9 ∧ ((zI σ r0 25 : Int32) ≤ x3 → ((x2 : Int32) = 0 ∨ x2 = 1) ∧ Q (Sum.inl (some (.int x2))) σ) ∧ (¬ ((zI σ r0 25 : Int32) ≤ x3) → zK σ r0 = 9 ∧ ∃ b1, zP σ r0 26 = some b1 ∧ (∃ n2 : Nat, x3 = nI n2 ∧ n2 < 2147483648 ∧ (zK σ b1 = 101 ∨ zK σ b1 = 1002) ∧ n2 < zL σ b1 ∧ (((zI σ b1 n2 : Int32) = x1 → WP g C S 126 105 [some (.ref r0), some (.int x1), some (.int x2), some (.int x3)] [] σ Q) ∧ (¬ ((zI σ b1 n2 : Int32) = x1) → zK σ r0 = 9 ∧ WP g C S 110 0 [some (.ref r0), some (.int 0), some (.int x1), none, none, none, none, none, none, none, none, none, none, none] [] σ (KK g C S 126 28 [some (.ref r0), some (.int x1), some (.int x2), some (.int x3)] [] Q false)))))) :
    WP g C S 126 4 [some (.ref r0), some (.int x1), some (.int x2), some (.int x3)] [] σ Q := by
  refine r_g (pc' := 5) (ls' := [some (.ref r0), some (.int x1), some (.int x2), some (.int x3)]) (st' := [.int x3]) dX7_isAlike_4 (fun _ => rfl) ?_
  refine r_g (pc' := 6) (ls' := [some (.ref r0), some (.int x1), some (.int x2), some (.int x3)]) (st' := [.ref r0, .int x3]) dX7_isAlike_5 (fun _ => rfl) ?_
  obtain ⟨hK, h⟩ := h
  refine r_getI dX7_isAlike_6 rfl (by decide) rfl hK ?_
  obtain ⟨h1, h2⟩ := h
  refine r_icmp (t := 111) dX7_isAlike_9 (by decide) c_ge (fun c => ?_) (fun c => ?_)
  · have h := h1 c
    refine r_g (pc' := 112) (ls' := [some (.ref r0), some (.int x1), some (.int x2), some (.int x3)]) (st' := [.int x2]) dX7_isAlike_111 (fun _ => rfl) ?_
    obtain ⟨hn, h⟩ := h
    exact r_ret dX7_isAlike_112 (by rcases hn with q | q <;> rw [q] <;> rfl) h
  · have h := h2 c
    refine r_g (pc' := 13) (ls' := [some (.ref r0), some (.int x1), some (.int x2), some (.int x3)]) (st' := [.ref r0]) dX7_isAlike_12 (fun _ => rfl) ?_
    obtain ⟨hK, b1, hP, h⟩ := h
    refine r_getP dX7_isAlike_13 rfl (by decide) rfl hK hP ?_
    refine r_g (pc' := 17) (ls' := [some (.ref r0), some (.int x1), some (.int x2), some (.int x3)]) (st' := [.int x3, .ref b1]) dX7_isAlike_16 (fun _ => rfl) ?_
    obtain ⟨n2, hj, hn, hK, hL, h⟩ := h
    refine r_iald dX7_isAlike_17 hj hn hK hL ?_
    refine r_g (pc' := 19) (ls' := [some (.ref r0), some (.int x1), some (.int x2), some (.int x3)]) (st' := [.int x1, .int (zI σ b1 n2)]) dX7_isAlike_18 (fun _ => rfl) ?_
    obtain ⟨h1, h2⟩ := h
    refine r_icmp (t := 105) dX7_isAlike_19 (by decide) c_eq (fun c => ?_) (fun c => ?_)
    · have h := h1 c
      exact h
    · have h := h2 c
      refine r_g (pc' := 23) (ls' := [some (.ref r0), some (.int x1), some (.int x2), some (.int x3)]) (st' := [.ref r0]) dX7_isAlike_22 (fun _ => rfl) ?_
      refine r_ic (v := 0) dX7_isAlike_23 (by decide) ?_
      refine r_g (pc' := 25) (ls' := [some (.ref r0), some (.int x1), some (.int x2), some (.int x3)]) (st' := [.int x1, .int 0, .ref r0]) dX7_isAlike_24 (fun _ => rfl) ?_
      obtain ⟨hK, h⟩ := h
      exact r_call (th := false) dX7_isAlike_25 (fun _ => ex_calV rfl (by decide)) rfl (Nat.le_of_ble_eq_true rfl) (Nat.le_of_ble_eq_true rfl) (Nat.le_of_ble_eq_true rfl) (rcv0 rfl rfl (by decide) hK) rfl rfl rfl (fun q => nomatch q) h
theorem b126_28 {g : Nat → Nat} {C S : Nat} {σ : PS} {Q : Rs → PS → Prop} {r0 : Nat} {x1 : Int32} {x2 : Int32} {x3 : Int32}
    (h : zK σ r0 = 9 ∧ ∃ b1, zP σ r0 26 = some b1 ∧ (∃ n2 : Nat, x3 = nI n2 ∧ n2 < 2147483648 ∧ (zK σ b1 = 101 ∨ zK σ b1 = 1002) ∧ n2 < zL σ b1 ∧ (zK σ r0 = 9 ∧ WP g C S 110 0 [some (.ref r0), some (.int 1), some (.int (zI σ b1 n2)), none, none, none, none, none, none, none, none, none, none, none] [] σ (KK g C S 126 39 [some (.ref r0), some (.int x1), some (.int x2), some (.int x3)] [] Q false)))) :
    WP g C S 126 28 [some (.ref r0), some (.int x1), some (.int x2), some (.int x3)] [] σ Q := by
  refine r_g (pc' := 29) (ls' := [some (.ref r0), some (.int x1), some (.int x2), some (.int x3)]) (st' := [.ref r0]) dX7_isAlike_28 (fun _ => rfl) ?_
  refine r_ic (v := 1) dX7_isAlike_29 (by decide) ?_
  refine r_g (pc' := 31) (ls' := [some (.ref r0), some (.int x1), some (.int x2), some (.int x3)]) (st' := [.ref r0, .int 1, .ref r0]) dX7_isAlike_30 (fun _ => rfl) ?_
  obtain ⟨hK, b1, hP, h⟩ := h
  refine r_getP dX7_isAlike_31 rfl (by decide) rfl hK hP ?_
  refine r_g (pc' := 35) (ls' := [some (.ref r0), some (.int x1), some (.int x2), some (.int x3)]) (st' := [.int x3, .ref b1, .int 1, .ref r0]) dX7_isAlike_34 (fun _ => rfl) ?_
  obtain ⟨n2, hj, hn, hK, hL, h⟩ := h
  refine r_iald dX7_isAlike_35 hj hn hK hL ?_
  obtain ⟨hK, h⟩ := h
  exact r_call (th := false) dX7_isAlike_36 (fun _ => ex_calV rfl (by decide)) rfl (Nat.le_of_ble_eq_true rfl) (Nat.le_of_ble_eq_true rfl) (Nat.le_of_ble_eq_true rfl) (rcv0 rfl rfl (by decide) hK) rfl rfl rfl (fun q => nomatch q) h
theorem b126_39 {g : Nat → Nat} {C S : Nat} {σ : PS} {Q : Rs → PS → Prop} {r0 : Nat} {x1 : Int32} {x2 : Int32} {x3 : Int32}
    (h : zK σ r0 = 9 ∧ ∃ b1, zP σ r0 19 = some b1 ∧ (∃ n2 : Nat, 0 = nI n2 ∧ n2 < 2147483648 ∧ (zK σ b1 = 101 ∨ zK σ b1 = 1002) ∧ n2 < zL σ b1 ∧ (((zI σ b1 n2 : Int32) ≤ 0 → WP g C S 126 105 [some (.ref r0), some (.int x1), some (.int x2), some (.int x3)] [] σ Q) ∧ (¬ ((zI σ b1 n2 : Int32) ≤ 0) → zK σ r0 = 9 ∧ ∃ b3, zP σ r0 19 = some b3 ∧ (∃ n4 : Nat, 1 = nI n4 ∧ n4 < 2147483648 ∧ (zK σ b3 = 101 ∨ zK σ b3 = 1002) ∧ n4 < zL σ b3 ∧ (((zI σ b3 n4 : Int32) ≤ 0 → WP g C S 126 105 [some (.ref r0), some (.int x1), some (.int x2), some (.int x3)] [] σ Q) ∧ (¬ ((zI σ b3 n4 : Int32) ≤ 0) → zK σ r0 = 9 ∧ WP g C S 121 0 [some (.ref r0), some (.int 0), some (.int 2)] [] σ (KK g C S 126 63 [some (.ref r0), some (.int x1), some (.int x2), some (.int x3)] [] Q false)))))))) :
    WP g C S 126 39 [some (.ref r0), some (.int x1), some (.int x2), some (.int x3)] [] σ Q := by
  refine r_g (pc' := 40) (ls' := [some (.ref r0), some (.int x1), some (.int x2), some (.int x3)]) (st' := [.ref r0]) dX7_isAlike_39 (fun _ => rfl) ?_
  obtain ⟨hK, b1, hP, h⟩ := h
  refine r_getP dX7_isAlike_40 rfl (by decide) rfl hK hP ?_
  refine r_ic (v := 0) dX7_isAlike_43 (by decide) ?_
  obtain ⟨n2, hj, hn, hK, hL, h⟩ := h
  refine r_iald dX7_isAlike_44 hj hn hK hL ?_
  obtain ⟨h1, h2⟩ := h
  refine r_if (t := 105) dX7_isAlike_45 (by decide) c_le (fun c => ?_) (fun c => ?_)
  · have h := h1 c
    exact h
  · have h := h2 c
    refine r_g (pc' := 49) (ls' := [some (.ref r0), some (.int x1), some (.int x2), some (.int x3)]) (st' := [.ref r0]) dX7_isAlike_48 (fun _ => rfl) ?_
    obtain ⟨hK, b3, hP, h⟩ := h
    refine r_getP dX7_isAlike_49 rfl (by decide) rfl hK hP ?_
    refine r_ic (v := 1) dX7_isAlike_52 (by decide) ?_
    obtain ⟨n4, hj, hn, hK, hL, h⟩ := h
    refine r_iald dX7_isAlike_53 hj hn hK hL ?_
    obtain ⟨h1, h2⟩ := h
    refine r_if (t := 105) dX7_isAlike_54 (by decide) c_le (fun c => ?_) (fun c => ?_)
    · have h := h1 c
      exact h
    · have h := h2 c
      refine r_g (pc' := 58) (ls' := [some (.ref r0), some (.int x1), some (.int x2), some (.int x3)]) (st' := [.ref r0]) dX7_isAlike_57 (fun _ => rfl) ?_
      refine r_ic (v := 0) dX7_isAlike_58 (by decide) ?_
      refine r_ic (v := 2) dX7_isAlike_59 (by decide) ?_
      obtain ⟨hK, h⟩ := h
      exact r_call (th := false) dX7_isAlike_60 (fun _ => ex_calV rfl (by decide)) rfl (Nat.le_of_ble_eq_true rfl) (Nat.le_of_ble_eq_true rfl) (Nat.le_of_ble_eq_true rfl) (rcv0 rfl rfl (by decide) hK) rfl rfl rfl (fun q => nomatch q) h
theorem b126_63 {g : Nat → Nat} {C S : Nat} {σ : PS} {Q : Rs → PS → Prop} {r0 : Nat} {x1 : Int32} {x2 : Int32} {x3 : Int32} {u0 : Int32}
    (h : (¬ (u0 : Int32) = 0 → WP g C S 126 105 [some (.ref r0), some (.int x1), some (.int x2), some (.int x3)] [] σ Q) ∧ (¬ (¬ (u0 : Int32) = 0) → zK σ r0 = 9 ∧ (∀ τ1, τ1 = stI σ r0 21 0 → zK τ1 r0 = 9 ∧ WP g C S 118 0 [some (.ref r0), some (.int 0), some (.int 0), none, none] [] τ1 (KK g C S 126 77 [some (.ref r0), some (.int x1), some (.int x2), some (.int x3)] [] Q false)))) :
    WP g C S 126 63 [some (.ref r0), some (.int x1), some (.int x2), some (.int x3)] [.int u0] σ Q := by
  obtain ⟨h1, h2⟩ := h
  refine r_if (t := 105) dX7_isAlike_63 (by decide) c_ne (fun c => ?_) (fun c => ?_)
  · have h := h1 c
    exact h
  · have h := h2 c
    refine r_g (pc' := 67) (ls' := [some (.ref r0), some (.int x1), some (.int x2), some (.int x3)]) (st' := [.ref r0]) dX7_isAlike_66 (fun _ => rfl) ?_
    refine r_ic (v := 0) dX7_isAlike_67 (by decide) ?_
    obtain ⟨hK, h⟩ := h
    refine r_putI dX7_isAlike_68 rfl (by decide) (Or.inl rfl) rfl (Or.inl rfl) hK ?_
    generalize eτ1 : stI σ r0 21 0 = τ1
    replace h := h _ eτ1.symm
    refine r_g (pc' := 72) (ls' := [some (.ref r0), some (.int x1), some (.int x2), some (.int x3)]) (st' := [.ref r0]) dX7_isAlike_71 (fun _ => rfl) ?_
    refine r_ic (v := 0) dX7_isAlike_72 (by decide) ?_
    refine r_ic (v := 0) dX7_isAlike_73 (by decide) ?_
    obtain ⟨hK, h⟩ := h
    exact r_call (th := false) dX7_isAlike_74 (fun _ => ex_calV rfl (by decide)) rfl (Nat.le_of_ble_eq_true rfl) (Nat.le_of_ble_eq_true rfl) (Nat.le_of_ble_eq_true rfl) (rcv0 rfl rfl (by decide) hK) rfl rfl rfl (fun q => nomatch q) h
theorem b126_77 {g : Nat → Nat} {C S : Nat} {σ : PS} {Q : Rs → PS → Prop} {r0 : Nat} {x1 : Int32} {x2 : Int32} {x3 : Int32}
    (h : zK σ r0 = 9 ∧ WP g C S 119 0 [some (.ref r0), none] [] σ (KK g C S 126 81 [some (.ref r0), some (.int x1), some (.int x2), some (.int x3)] [] Q false)) :
    WP g C S 126 77 [some (.ref r0), some (.int x1), some (.int x2), some (.int x3)] [] σ Q := by
  refine r_g (pc' := 78) (ls' := [some (.ref r0), some (.int x1), some (.int x2), some (.int x3)]) (st' := [.ref r0]) dX7_isAlike_77 (fun _ => rfl) ?_
  obtain ⟨hK, h⟩ := h
  exact r_call (th := false) dX7_isAlike_78 (fun _ => ex_calV rfl (by decide)) rfl (Nat.le_of_ble_eq_true rfl) (Nat.le_of_ble_eq_true rfl) (Nat.le_of_ble_eq_true rfl) (rcv0 rfl rfl (by decide) hK) rfl rfl rfl (fun q => nomatch q) h
theorem b126_81 {g : Nat → Nat} {C S : Nat} {σ : PS} {Q : Rs → PS → Prop} {r0 : Nat} {x1 : Int32} {x2 : Int32} {x3 : Int32}
    (h : zK σ r0 = 9 ∧ WP g C S 118 0 [some (.ref r0), some (.int 1), some (.int 0), none, none] [] σ (KK g C S 126 87 [some (.ref r0), some (.int x1), some (.int x2), some (.int x3)] [] Q false)) :
    WP g C S 126 81 [some (.ref r0), some (.int x1), some (.int x2), some (.int x3)] [] σ Q := by
  refine r_g (pc' := 82) (ls' := [some (.ref r0), some (.int x1), some (.int x2), some (.int x3)]) (st' := [.ref r0]) dX7_isAlike_81 (fun _ => rfl) ?_
  refine r_ic (v := 1) dX7_isAlike_82 (by decide) ?_
  refine r_ic (v := 0) dX7_isAlike_83 (by decide) ?_
  obtain ⟨hK, h⟩ := h
  exact r_call (th := false) dX7_isAlike_84 (fun _ => ex_calV rfl (by decide)) rfl (Nat.le_of_ble_eq_true rfl) (Nat.le_of_ble_eq_true rfl) (Nat.le_of_ble_eq_true rfl) (rcv0 rfl rfl (by decide) hK) rfl rfl rfl (fun q => nomatch q) h
theorem b126_87 {g : Nat → Nat} {C S : Nat} {σ : PS} {Q : Rs → PS → Prop} {r0 : Nat} {x1 : Int32} {x2 : Int32} {x3 : Int32}
    (h : (¬ (x2 : Int32) = 0 → WP g C S 126 99 [some (.ref r0), some (.int x1), some (.int x2), some (.int x3)] [] σ Q) ∧ (¬ (¬ (x2 : Int32) = 0) → zK σ r0 = 9 ∧ WP g C S 120 0 [some (.ref r0), some (.int 0), none, none, none] [] σ (KK g C S 126 96 [some (.ref r0), some (.int x1), some (.int x2), some (.int x3)] [] Q false))) :
    WP g C S 126 87 [some (.ref r0), some (.int x1), some (.int x2), some (.int x3)] [] σ Q := by
  refine r_g (pc' := 88) (ls' := [some (.ref r0), some (.int x1), some (.int x2), some (.int x3)]) (st' := [.int x2]) dX7_isAlike_87 (fun _ => rfl) ?_
  obtain ⟨h1, h2⟩ := h
  refine r_if (t := 99) dX7_isAlike_88 (by decide) c_ne (fun c => ?_) (fun c => ?_)
  · have h := h1 c
    exact h
  · have h := h2 c
    refine r_g (pc' := 92) (ls' := [some (.ref r0), some (.int x1), some (.int x2), some (.int x3)]) (st' := [.ref r0]) dX7_isAlike_91 (fun _ => rfl) ?_
    refine r_ic (v := 0) dX7_isAlike_92 (by decide) ?_
    obtain ⟨hK, h⟩ := h
    exact r_call (th := false) dX7_isAlike_93 (fun _ => ex_calV rfl (by decide)) rfl (Nat.le_of_ble_eq_true rfl) (Nat.le_of_ble_eq_true rfl) (Nat.le_of_ble_eq_true rfl) (rcv0 rfl rfl (by decide) hK) rfl rfl rfl (fun q => nomatch q) h
theorem b126_96 {g : Nat → Nat} {C S : Nat} {σ : PS} {Q : Rs → PS → Prop} {r0 : Nat} {x1 : Int32} {l2 : Option Value} {x3 : Int32} {u0 : Int32}
    (h : ((u0 : Int32) = 0 → WP g C S 126 104 [some (.ref r0), some (.int x1), l2, some (.int x3)] [.int 0] σ Q) ∧ (¬ ((u0 : Int32) = 0) → WP g C S 126 99 [some (.ref r0), some (.int x1), l2, some (.int x3)] [] σ Q)) :
    WP g C S 126 96 [some (.ref r0), some (.int x1), l2, some (.int x3)] [.int u0] σ Q := by
  obtain ⟨h1, h2⟩ := h
  refine r_if (t := 103) dX7_isAlike_96 (by decide) c_eq (fun c => ?_) (fun c => ?_)
  · have h := h1 c
    refine r_ic (v := 0) dX7_isAlike_103 (by decide) ?_
    exact h
  · have h := h2 c
    exact h
theorem b126_99 {g : Nat → Nat} {C S : Nat} {σ : PS} {Q : Rs → PS → Prop} {r0 : Nat} {x1 : Int32} {l2 : Option Value} {x3 : Int32}
    (h : WP g C S 126 104 [some (.ref r0), some (.int x1), l2, some (.int x3)] [.int 1] σ Q) :
    WP g C S 126 99 [some (.ref r0), some (.int x1), l2, some (.int x3)] [] σ Q := by
  refine r_ic (v := 1) dX7_isAlike_99 (by decide) ?_
  refine r_goto (t := 104) dX7_isAlike_100 (by decide) ?_
  exact h
theorem b126_104 {g : Nat → Nat} {C S : Nat} {σ : PS} {Q : Rs → PS → Prop} {r0 : Nat} {x1 : Int32} {l2 : Option Value} {x3 : Int32} {u0 : Int32}
    (h : WP g C S 126 105 [some (.ref r0), some (.int x1), some (.int u0), some (.int x3)] [] σ Q) :
    WP g C S 126 104 [some (.ref r0), some (.int x1), l2, some (.int x3)] [.int u0] σ Q := by
  refine r_g (pc' := 105) (ls' := [some (.ref r0), some (.int x1), some (.int u0), some (.int x3)]) (st' := []) dX7_isAlike_104 (fun _ => rfl) ?_
  exact h
theorem b126_105 {g : Nat → Nat} {C S : Nat} {σ : PS} {Q : Rs → PS → Prop} {r0 : Nat} {x1 : Int32} {x2 : Int32} {x3 : Int32}
    (h : WP g C S 126 4 [some (.ref r0), some (.int x1), some (.int x2), some (.int (x3 + 1))] [] σ Q) :
    WP g C S 126 105 [some (.ref r0), some (.int x1), some (.int x2), some (.int x3)] [] σ Q := by
  refine r_inc (v := 1) (ls' := [some (.ref r0), some (.int x1), some (.int x2), some (.int (x3 + 1))]) dX7_isAlike_105 rfl (Nat.le_of_ble_eq_true rfl) (by decide) rfl ?_
  refine r_goto (t := 4) dX7_isAlike_108 (by decide) ?_
  exact h
theorem b127_0 {g : Nat → Nat} {C S : Nat} {σ : PS} {Q : Rs → PS → Prop} {r0 : Nat} {x1 : Int32} {l2 : Option Value} {l3 : Option Value} {l4 : Option Value} {l5 : Option Value}
    (h : zK σ r0 = 9 ∧ WP g C S 110 0 [some (.ref r0), some (.int 0), some (.int x1), none, none, none, none, none, none, none, none, none, none, none] [] σ (KK g C S 127 6 [some (.ref r0), some (.int x1), l2, l3, l4, l5] [] Q false)) :
    WP g C S 127 0 [some (.ref r0), some (.int x1), l2, l3, l4, l5] [] σ Q := by
  refine r_g (pc' := 1) (ls' := [some (.ref r0), some (.int x1), l2, l3, l4, l5]) (st' := [.ref r0]) dX7_makeShort_0 (fun _ => rfl) ?_
  refine r_ic (v := 0) dX7_makeShort_1 (by decide) ?_
  refine r_g (pc' := 3) (ls' := [some (.ref r0), some (.int x1), l2, l3, l4, l5]) (st' := [.int x1, .int 0, .ref r0]) dX7_makeShort_2 (fun _ => rfl) ?_
  obtain ⟨hK, h⟩ := h
  exact r_call (th := false) dX7_makeShort_3 (fun _ => ex_calV rfl (by decide)) rfl (Nat.le_of_ble_eq_true rfl) (Nat.le_of_ble_eq_true rfl) (Nat.le_of_ble_eq_true rfl) (rcv0 rfl rfl (by decide) hK) rfl rfl rfl (fun q => nomatch q) h
theorem b127_6 {g : Nat → Nat} {C S : Nat} {σ : PS} {Q : Rs → PS → Prop} {r0 : Nat} {x1 : Int32} {l2 : Option Value} {l3 : Option Value} {l4 : Option Value} {l5 : Option Value}
    (h : zK σ r0 = 9 ∧ ∃ b1, zP σ r0 19 = some b1 ∧ (∃ n2 : Nat, 0 = nI n2 ∧ n2 < 2147483648 ∧ (zK σ b1 = 101 ∨ zK σ b1 = 1002) ∧ n2 < zL σ b1 ∧ ((¬ (zI σ b1 n2 : Int32) = 0 → (¬ (zI σ b1 n2 : Int32) = 1 → WP g C S 127 39 [some (.ref r0), some (.int x1), some (.int (zI σ b1 n2)), l3, l4, l5] [] σ Q) ∧ (¬ (¬ (zI σ b1 n2 : Int32) = 1) → zK σ r0 = 9 ∧ WP g C S 115 0 [some (.ref r0), some (.int 0), some (.int 0), some (.int 2), some (.int 3), none, none, none, none] [] σ (KK g C S 127 39 [some (.ref r0), some (.int x1), some (.int (zI σ b1 n2)), l3, l4, l5] [] Q false))) ∧ (¬ (¬ (zI σ b1 n2 : Int32) = 0) → zK σ r0 = 9 ∧ WP g C S 114 0 [some (.ref r0), some (.int x1), some (.int 3), none] [] σ (KK g C S 127 23 [some (.ref r0), some (.int x1), some (.int (zI σ b1 n2)), l3, l4, l5] [] Q false))))) :
    WP g C S 127 6 [some (.ref r0), some (.int x1), l2, l3, l4, l5] [] σ Q := by
  refine r_g (pc' := 7) (ls' := [some (.ref r0), some (.int x1), l2, l3, l4, l5]) (st' := [.ref r0]) dX7_makeShort_6 (fun _ => rfl) ?_
  obtain ⟨hK, b1, hP, h⟩ := h
  refine r_getP dX7_makeShort_7 rfl (by decide) rfl hK hP ?_
  refine r_ic (v := 0) dX7_makeShort_10 (by decide) ?_
  obtain ⟨n2, hj, hn, hK, hL, h⟩ := h
  refine r_iald dX7_makeShort_11 hj hn hK hL ?_
  refine r_g (pc' := 13) (ls' := [some (.ref r0), some (.int x1), some (.int (zI σ b1 n2)), l3, l4, l5]) (st' := []) dX7_makeShort_12 (fun _ => rfl) ?_
  refine r_g (pc' := 14) (ls' := [some (.ref r0), some (.int x1), some (.int (zI σ b1 n2)), l3, l4, l5]) (st' := [.int (zI σ b1 n2)]) dX7_makeShort_13 (fun _ => rfl) ?_
  obtain ⟨h1, h2⟩ := h
  refine r_if (t := 26) dX7_makeShort_14 (by decide) c_ne (fun c => ?_) (fun c => ?_)
  · have h := h1 c
    refine r_g (pc' := 27) (ls' := [some (.ref r0), some (.int x1), some (.int (zI σ b1 n2)), l3, l4, l5]) (st' := [.int (zI σ b1 n2)]) dX7_makeShort_26 (fun _ => rfl) ?_
    refine r_ic (v := 1) dX7_makeShort_27 (by decide) ?_
    obtain ⟨h1, h2⟩ := h
    refine r_icmp (t := 39) dX7_makeShort_28 (by decide) c_ne (fun c => ?_) (fun c => ?_)
    · have h := h1 c
      exact h
    · have h := h2 c
      refine r_g (pc' := 32) (ls' := [some (.ref r0), some (.int x1), some (.int (zI σ b1 n2)), l3, l4, l5]) (st' := [.ref r0]) dX7_makeShort_31 (fun _ => rfl) ?_
      refine r_ic (v := 0) dX7_makeShort_32 (by decide) ?_
      refine r_ic (v := 0) dX7_makeShort_33 (by decide) ?_
      refine r_ic (v := 2) dX7_makeShort_34 (by decide) ?_
      refine r_ic (v := 3) dX7_makeShort_35 (by decide) ?_
      obtain ⟨hK, h⟩ := h
      exact r_call (th := false) dX7_makeShort_36 (fun _ => ex_calV rfl (by decide)) rfl (Nat.le_of_ble_eq_true rfl) (Nat.le_of_ble_eq_true rfl) (Nat.le_of_ble_eq_true rfl) (rcv0 rfl rfl (by decide) hK) rfl rfl rfl (fun q => nomatch q) h
  · have h := h2 c
    refine r_g (pc' := 18) (ls' := [some (.ref r0), some (.int x1), some (.int (zI σ b1 n2)), l3, l4, l5]) (st' := [.ref r0]) dX7_makeShort_17 (fun _ => rfl) ?_
    refine r_g (pc' := 19) (ls' := [some (.ref r0), some (.int x1), some (.int (zI σ b1 n2)), l3, l4, l5]) (st' := [.int x1, .ref r0]) dX7_makeShort_18 (fun _ => rfl) ?_
    refine r_ic (v := 3) dX7_makeShort_19 (by decide) ?_
    obtain ⟨hK, h⟩ := h
    exact r_call (th := false) dX7_makeShort_20 (fun _ => ex_calV rfl (by decide)) rfl (Nat.le_of_ble_eq_true rfl) (Nat.le_of_ble_eq_true rfl) (Nat.le_of_ble_eq_true rfl) (rcv0 rfl rfl (by decide) hK) rfl rfl rfl (fun q => nomatch q) h
theorem b127_23 {g : Nat → Nat} {C S : Nat} {σ : PS} {Q : Rs → PS → Prop} {r0 : Nat} {x1 : Int32} {x2 : Int32} {l3 : Option Value} {l4 : Option Value} {l5 : Option Value}
    (h : WP g C S 127 39 [some (.ref r0), some (.int x1), some (.int x2), l3, l4, l5] [] σ Q) :
    WP g C S 127 23 [some (.ref r0), some (.int x1), some (.int x2), l3, l4, l5] [] σ Q := by
  refine r_goto (t := 39) dX7_makeShort_23 (by decide) ?_
  exact h
theorem b127_39 {g : Nat → Nat} {C S : Nat} {σ : PS} {Q : Rs → PS → Prop} {r0 : Nat} {x1 : Int32} {x2 : Int32} {l3 : Option Value} {l4 : Option Value} {l5 : Option Value}
    (h : WP g C S 127 41 [some (.ref r0), some (.int x1), some (.int x2), some (.int 0), l4, l5] [] σ Q) :
    WP g C S 127 39 [some (.ref r0), some (.int x1), some (.int x2), l3, l4, l5] [] σ Q := by
  refine r_ic (v := 0) dX7_makeShort_39 (by decide) ?_
  refine r_g (pc' := 41) (ls' := [some (.ref r0), some (.int x1), some (.int x2), some (.int 0), l4, l5]) (st' := []) dX7_makeShort_40 (fun _ => rfl) ?_
  exact h
theorem b127_41 {g : Nat → Nat} {C S : Nat} {σ : PS} {Q : Rs → PS → Prop} {r0 : Nat} {x1 : Int32} {x2 : Int32} {x3 : Int32} {l4 : Option Value} {l5 : Option Value}
    (h : ((x2 : Int32) ≤ x3 → WP g C S 127 70 [some (.ref r0), some (.int x1), some (.int x2), some (.int x3), l4, l5] [] σ Q) ∧ (¬ ((x2 : Int32) ≤ x3) → ((4 : Int32) ≤ x3 → WP g C S 127 70 [some (.ref r0), some (.int x1), some (.int x2), some (.int x3), l4, l5] [] σ Q) ∧ (¬ ((4 : Int32) ≤ x3) → ((x2 : Int32) ≤ 1 → WP g C S 127 70 [some (.ref r0), some (.int x1), some (.int x2), some (.int x3), l4, l5] [] σ Q) ∧ (¬ ((x2 : Int32) ≤ 1) → zK σ r0 = 9 ∧ WP g C S 115 0 [some (.ref r0), some (.int 0), some (.int x3), some (.int 2), some (.int 1), none, none, none, none] [] σ (KK g C S 127 64 [some (.ref r0), some (.int x1), some (.int x2), some (.int x3), l4, l5] [] Q false))))) :
    WP g C S 127 41 [some (.ref r0), some (.int x1), some (.int x2), some (.int x3), l4, l5] [] σ Q := by
  refine r_g (pc' := 42) (ls' := [some (.ref r0), some (.int x1), some (.int x2), some (.int x3), l4, l5]) (st' := [.int x3]) dX7_makeShort_41 (fun _ => rfl) ?_
  refine r_g (pc' := 43) (ls' := [some (.ref r0), some (.int x1), some (.int x2), some (.int x3), l4, l5]) (st' := [.int x2, .int x3]) dX7_makeShort_42 (fun _ => rfl) ?_
  obtain ⟨h1, h2⟩ := h
  refine r_icmp (t := 70) dX7_makeShort_43 (by decide) c_ge (fun c => ?_) (fun c => ?_)
  · have h := h1 c
    exact h
  · have h := h2 c
    refine r_g (pc' := 47) (ls' := [some (.ref r0), some (.int x1), some (.int x2), some (.int x3), l4, l5]) (st' := [.int x3]) dX7_makeShort_46 (fun _ => rfl) ?_
    refine r_ic (v := 4) dX7_makeShort_47 (by decide) ?_
    obtain ⟨h1, h2⟩ := h
    refine r_icmp (t := 70) dX7_makeShort_48 (by decide) c_ge (fun c => ?_) (fun c => ?_)
    · have h := h1 c
      exact h
    · have h := h2 c
      refine r_g (pc' := 52) (ls' := [some (.ref r0), some (.int x1), some (.int x2), some (.int x3), l4, l5]) (st' := [.int x2]) dX7_makeShort_51 (fun _ => rfl) ?_
      refine r_ic (v := 1) dX7_makeShort_52 (by decide) ?_
      obtain ⟨h1, h2⟩ := h
      refine r_icmp (t := 70) dX7_makeShort_53 (by decide) c_le (fun c => ?_) (fun c => ?_)
      · have h := h1 c
        exact h
      · have h := h2 c
        refine r_g (pc' := 57) (ls' := [some (.ref r0), some (.int x1), some (.int x2), some (.int x3), l4, l5]) (st' := [.ref r0]) dX7_makeShort_56 (fun _ => rfl) ?_
        refine r_ic (v := 0) dX7_makeShort_57 (by decide) ?_
        refine r_g (pc' := 59) (ls' := [some (.ref r0), some (.int x1), some (.int x2), some (.int x3), l4, l5]) (st' := [.int x3, .int 0, .ref r0]) dX7_makeShort_58 (fun _ => rfl) ?_
        refine r_ic (v := 2) dX7_makeShort_59 (by decide) ?_
        refine r_ic (v := 1) dX7_makeShort_60 (by decide) ?_
        obtain ⟨hK, h⟩ := h
        exact r_call (th := false) dX7_makeShort_61 (fun _ => ex_calV rfl (by decide)) rfl (Nat.le_of_ble_eq_true rfl) (Nat.le_of_ble_eq_true rfl) (Nat.le_of_ble_eq_true rfl) (rcv0 rfl rfl (by decide) hK) rfl rfl rfl (fun q => nomatch q) h
theorem b127_64 {g : Nat → Nat} {C S : Nat} {σ : PS} {Q : Rs → PS → Prop} {r0 : Nat} {x1 : Int32} {x2 : Int32} {x3 : Int32} {l4 : Option Value} {l5 : Option Value}
    (h : WP g C S 127 41 [some (.ref r0), some (.int x1), some (.int x2), some (.int (x3 + 1)), l4, l5] [] σ Q) :
    WP g C S 127 64 [some (.ref r0), some (.int x1), some (.int x2), some (.int x3), l4, l5] [] σ Q := by
  refine r_inc (v := 1) (ls' := [some (.ref r0), some (.int x1), some (.int x2), some (.int (x3 + 1)), l4, l5]) dX7_makeShort_64 rfl (Nat.le_of_ble_eq_true rfl) (by decide) rfl ?_
  refine r_goto (t := 41) dX7_makeShort_67 (by decide) ?_
  exact h
theorem b127_70 {g : Nat → Nat} {C S : Nat} {σ : PS} {Q : Rs → PS → Prop} {r0 : Nat} {x1 : Int32} {x2 : Int32} {l3 : Option Value} {l4 : Option Value} {l5 : Option Value}
    (h : ((x2 : Int32) ≤ 4 → WP g C S 127 81 [some (.ref r0), some (.int x1), some (.int x2), l3, l4, l5] [] σ Q) ∧ (¬ ((x2 : Int32) ≤ 4) → zK σ r0 = 9 ∧ WP g C S 111 0 [some (.ref r0), some (.int 43)] [] σ (KK g C S 127 81 [some (.ref r0), some (.int x1), some (.int x2), l3, l4, l5] [] Q false))) :
    WP g C S 127 70 [some (.ref r0), some (.int x1), some (.int x2), l3, l4, l5] [] σ Q := by
  refine r_g (pc' := 71) (ls' := [some (.ref r0), some (.int x1), some (.int x2), l3, l4, l5]) (st' := [.int x2]) dX7_makeShort_70 (fun _ => rfl) ?_
  refine r_ic (v := 4) dX7_makeShort_71 (by decide) ?_
  obtain ⟨h1, h2⟩ := h
  refine r_icmp (t := 81) dX7_makeShort_72 (by decide) c_le (fun c => ?_) (fun c => ?_)
  · have h := h1 c
    exact h
  · have h := h2 c
    refine r_g (pc' := 76) (ls' := [some (.ref r0), some (.int x1), some (.int x2), l3, l4, l5]) (st' := [.ref r0]) dX7_makeShort_75 (fun _ => rfl) ?_
    refine r_bi (v := 43) dX7_makeShort_76 (by decide) ?_
    obtain ⟨hK, h⟩ := h
    exact r_call (th := false) dX7_makeShort_78 (fun _ => ex_calV rfl (by decide)) rfl (Nat.le_of_ble_eq_true rfl) (Nat.le_of_ble_eq_true rfl) (Nat.le_of_ble_eq_true rfl) (rcv0 rfl rfl (by decide) hK) rfl rfl rfl (fun q => nomatch q) h
theorem b127_81 {g : Nat → Nat} {C S : Nat} {σ : PS} {Q : Rs → PS → Prop} {r0 : Nat} {x1 : Int32} {l2 : Option Value} {l3 : Option Value} {l4 : Option Value} {l5 : Option Value}
    (h : zK σ r0 = 9 ∧ WP g C S 103 0 [some (.ref r0), some (.int x1), some (.int 2), none] [] σ (KK g C S 127 87 [some (.ref r0), some (.int x1), l2, l3, l4, l5] [] Q false)) :
    WP g C S 127 81 [some (.ref r0), some (.int x1), l2, l3, l4, l5] [] σ Q := by
  refine r_g (pc' := 82) (ls' := [some (.ref r0), some (.int x1), l2, l3, l4, l5]) (st' := [.ref r0]) dX7_makeShort_81 (fun _ => rfl) ?_
  refine r_g (pc' := 83) (ls' := [some (.ref r0), some (.int x1), l2, l3, l4, l5]) (st' := [.int x1, .ref r0]) dX7_makeShort_82 (fun _ => rfl) ?_
  refine r_ic (v := 2) dX7_makeShort_83 (by decide) ?_
  obtain ⟨hK, h⟩ := h
  exact r_call (th := false) dX7_makeShort_84 (fun _ => ex_calV rfl (by decide)) rfl (Nat.le_of_ble_eq_true rfl) (Nat.le_of_ble_eq_true rfl) (Nat.le_of_ble_eq_true rfl) (rcv0 rfl rfl (by decide) hK) rfl rfl rfl (fun q => nomatch q) h
theorem b127_87 {g : Nat → Nat} {C S : Nat} {σ : PS} {Q : Rs → PS → Prop} {r0 : Nat} {l1 : Option Value} {l2 : Option Value} {l3 : Option Value} {l4 : Option Value} {l5 : Option Value} {u0 : Int32}
    (h : ((u0 : Int32) = (-1) → WP g C S 127 103 [some (.ref r0), l1, (clr l2), some (.int u0), l4, l5] [] σ Q) ∧ (¬ ((u0 : Int32) = (-1)) → zK σ r0 = 9 ∧ ∃ b1, zP σ r0 5 = some b1 ∧ (∃ n2 : Nat, u0 = nI n2 ∧ n2 < 2147483648 ∧ (zK σ b1 = 101 ∨ zK σ b1 = 1002) ∧ n2 < zL σ b1 ∧ (((2 : Int32) ≤ (zI σ b1 n2) → zK σ r0 = 9 ∧ ∃ b3, zP σ r0 5 = some b3 ∧ (∃ n4 : Nat, u0 = nI n4 ∧ n4 < 2147483648 ∧ (zK σ b3 = 101 ∨ zK σ b3 = 1002) ∧ n4 < zL σ b3 ∧ (WP g C S 127 115 [some (.ref r0), l1, (clr l2), some (.int u0), l4, l5] [.int ((zI σ b3 n4) - 2)] σ Q))) ∧ (¬ ((2 : Int32) ≤ (zI σ b1 n2)) → WP g C S 127 103 [some (.ref r0), l1, (clr l2), some (.int u0), l4, l5] [] σ Q))))) :
    WP g C S 127 87 [some (.ref r0), l1, l2, l3, l4, l5] [.int u0] σ Q := by
  refine r_g (pc' := 88) (ls' := [some (.ref r0), l1, (clr l2), some (.int u0), l4, l5]) (st' := []) dX7_makeShort_87 (fun _ => rfl) ?_
  refine r_g (pc' := 89) (ls' := [some (.ref r0), l1, (clr l2), some (.int u0), l4, l5]) (st' := [.int u0]) dX7_makeShort_88 (fun _ => rfl) ?_
  refine r_ic (v := -1) dX7_makeShort_89 (by decide) ?_
  obtain ⟨h1, h2⟩ := h
  refine r_icmp (t := 103) dX7_makeShort_90 (by decide) c_eq (fun c => ?_) (fun c => ?_)
  · have h := h1 c
    exact h
  · have h := h2 c
    refine r_g (pc' := 94) (ls' := [some (.ref r0), l1, (clr l2), some (.int u0), l4, l5]) (st' := [.ref r0]) dX7_makeShort_93 (fun _ => rfl) ?_
    obtain ⟨hK, b1, hP, h⟩ := h
    refine r_getP dX7_makeShort_94 rfl (by decide) rfl hK hP ?_
    refine r_g (pc' := 98) (ls' := [some (.ref r0), l1, (clr l2), some (.int u0), l4, l5]) (st' := [.int u0, .ref b1]) dX7_makeShort_97 (fun _ => rfl) ?_
    obtain ⟨n2, hj, hn, hK, hL, h⟩ := h
    refine r_iald dX7_makeShort_98 hj hn hK hL ?_
    refine r_ic (v := 2) dX7_makeShort_99 (by decide) ?_
    obtain ⟨h1, h2⟩ := h
    refine r_icmp (t := 107) dX7_makeShort_100 (by decide) c_ge (fun c => ?_) (fun c => ?_)
    · have h := h1 c
      refine r_g (pc' := 108) (ls' := [some (.ref r0), l1, (clr l2), some (.int u0), l4, l5]) (st' := [.ref r0]) dX7_makeShort_107 (fun _ => rfl) ?_
      obtain ⟨hK, b3, hP, h⟩ := h
      refine r_getP dX7_makeShort_108 rfl (by decide) rfl hK hP ?_
      refine r_g (pc' := 112) (ls' := [some (.ref r0), l1, (clr l2), some (.int u0), l4, l5]) (st' := [.int u0, .ref b3]) dX7_makeShort_111 (fun _ => rfl) ?_
      obtain ⟨n4, hj, hn, hK, hL, h⟩ := h
      refine r_iald dX7_makeShort_112 hj hn hK hL ?_
      refine r_ic (v := 2) dX7_makeShort_113 (by decide) ?_
      refine r_g (pc' := 115) (ls' := [some (.ref r0), l1, (clr l2), some (.int u0), l4, l5]) (st' := [.int ((zI σ b3 n4) - 2)]) dX7_makeShort_114 (fun _ => rfl) ?_
      exact h
    · have h := h2 c
      exact h
theorem b127_103 {g : Nat → Nat} {C S : Nat} {σ : PS} {Q : Rs → PS → Prop} {r0 : Nat} {l1 : Option Value} {l2 : Option Value} {x3 : Int32} {l4 : Option Value} {l5 : Option Value}
    (h : WP g C S 127 115 [some (.ref r0), l1, l2, some (.int x3), l4, l5] [.int 0] σ Q) :
    WP g C S 127 103 [some (.ref r0), l1, l2, some (.int x3), l4, l5] [] σ Q := by
  refine r_ic (v := 0) dX7_makeShort_103 (by decide) ?_
  refine r_goto (t := 115) dX7_makeShort_104 (by decide) ?_
  exact h
theorem b127_115 {g : Nat → Nat} {C S : Nat} {σ : PS} {Q : Rs → PS → Prop} {r0 : Nat} {l1 : Option Value} {l2 : Option Value} {x3 : Int32} {l4 : Option Value} {l5 : Option Value} {u0 : Int32}
    (h : WP g C S 127 121 [some (.ref r0), l1, l2, some (.int x3), some (.int u0), some (.int u0)] [] σ Q) :
    WP g C S 127 115 [some (.ref r0), l1, l2, some (.int x3), l4, l5] [.int u0] σ Q := by
  refine r_g (pc' := 117) (ls' := [some (.ref r0), l1, l2, some (.int x3), some (.int u0), l5]) (st' := []) dX7_makeShort_115 (fun _ => rfl) ?_
  refine r_g (pc' := 119) (ls' := [some (.ref r0), l1, l2, some (.int x3), some (.int u0), l5]) (st' := [.int u0]) dX7_makeShort_117 (fun _ => rfl) ?_
  refine r_g (pc' := 121) (ls' := [some (.ref r0), l1, l2, some (.int x3), some (.int u0), some (.int u0)]) (st' := []) dX7_makeShort_119 (fun _ => rfl) ?_
  exact h
theorem b127_121 {g : Nat → Nat} {C S : Nat} {σ : PS} {Q : Rs → PS → Prop} {r0 : Nat} {l1 : Option Value} {l2 : Option Value} {x3 : Int32} {l4 : Option Value} {x5 : Int32}
    (h : ((x3 : Int32) = (-1) → WP g C S 127 159 [some (.ref r0), l1, l2, some (.int x3), l4, some (.int x5)] [] σ Q) ∧ (¬ ((x3 : Int32) = (-1)) → zK σ r0 = 9 ∧ ∃ b1, zP σ r0 5 = some b1 ∧ (∃ n2 : Nat, x3 = nI n2 ∧ n2 < 2147483648 ∧ (zK σ b1 = 101 ∨ zK σ b1 = 1002) ∧ n2 < zL σ b1 ∧ (((zI σ b1 n2 : Int32) ≤ x5 → WP g C S 127 159 [some (.ref r0), l1, l2, some (.int x3), l4, some (.int x5)] [] σ Q) ∧ (¬ ((zI σ b1 n2 : Int32) ≤ x5) → zK σ r0 = 9 ∧ ∃ b3, zP σ r0 6 = some b3 ∧ (∃ n4 : Nat, (80 * x3) + x5 = nI n4 ∧ n4 < 2147483648 ∧ (zK σ b3 = 101 ∨ zK σ b3 = 1002) ∧ n4 < zL σ b3 ∧ (zK σ r0 = 9 ∧ WP g C S 111 0 [some (.ref r0), some (.int (zI σ b3 n4))] [] σ (KK g C S 127 153 [some (.ref r0), l1, l2, some (.int x3), l4, some (.int x5)] [] Q false)))))))) :
    WP g C S 127 121 [some (.ref r0), l1, l2, some (.int x3), l4, some (.int x5)] [] σ Q := by
  refine r_g (pc' := 122) (ls' := [some (.ref r0), l1, l2, some (.int x3), l4, some (.int x5)]) (st' := [.int x3]) dX7_makeShort_121 (fun _ => rfl) ?_
  refine r_ic (v := -1) dX7_makeShort_122 (by decide) ?_
  obtain ⟨h1, h2⟩ := h
  refine r_icmp (t := 159) dX7_makeShort_123 (by decide) c_eq (fun c => ?_) (fun c => ?_)
  · have h := h1 c
    exact h
  · have h := h2 c
    refine r_g (pc' := 128) (ls' := [some (.ref r0), l1, l2, some (.int x3), l4, some (.int x5)]) (st' := [.int x5]) dX7_makeShort_126 (fun _ => rfl) ?_
    refine r_g (pc' := 129) (ls' := [some (.ref r0), l1, l2, some (.int x3), l4, some (.int x5)]) (st' := [.ref r0, .int x5]) dX7_makeShort_128 (fun _ => rfl) ?_
    obtain ⟨hK, b1, hP, h⟩ := h
    refine r_getP dX7_makeShort_129 rfl (by decide) rfl hK hP ?_
    refine r_g (pc' := 133) (ls' := [some (.ref r0), l1, l2, some (.int x3), l4, some (.int x5)]) (st' := [.int x3, .ref b1, .int x5]) dX7_makeShort_132 (fun _ => rfl) ?_
    obtain ⟨n2, hj, hn, hK, hL, h⟩ := h
    refine r_iald dX7_makeShort_133 hj hn hK hL ?_
    obtain ⟨h1, h2⟩ := h
    refine r_icmp (t := 159) dX7_makeShort_134 (by decide) c_ge (fun c => ?_) (fun c => ?_)
    · have h := h1 c
      exact h
    · have h := h2 c
      refine r_g (pc' := 138) (ls' := [some (.ref r0), l1, l2, some (.int x3), l4, some (.int x5)]) (st' := [.ref r0]) dX7_makeShort_137 (fun _ => rfl) ?_
      refine r_g (pc' := 139) (ls' := [some (.ref r0), l1, l2, some (.int x3), l4, some (.int x5)]) (st' := [.ref r0, .ref r0]) dX7_makeShort_138 (fun _ => rfl) ?_
      obtain ⟨hK, b3, hP, h⟩ := h
      refine r_getP dX7_makeShort_139 rfl (by decide) rfl hK hP ?_
      refine r_bi (v := 80) dX7_makeShort_142 (by decide) ?_
      refine r_g (pc' := 145) (ls' := [some (.ref r0), l1, l2, some (.int x3), l4, some (.int x5)]) (st' := [.int x3, .int 80, .ref b3, .ref r0]) dX7_makeShort_144 (fun _ => rfl) ?_
      refine r_g (pc' := 146) (ls' := [some (.ref r0), l1, l2, some (.int x3), l4, some (.int x5)]) (st' := [.int (80 * x3), .ref b3, .ref r0]) dX7_makeShort_145 (fun _ => rfl) ?_
      refine r_g (pc' := 148) (ls' := [some (.ref r0), l1, l2, some (.int x3), l4, some (.int x5)]) (st' := [.int x5, .int (80 * x3), .ref b3, .ref r0]) dX7_makeShort_146 (fun _ => rfl) ?_
      refine r_g (pc' := 149) (ls' := [some (.ref r0), l1, l2, some (.int x3), l4, some (.int x5)]) (st' := [.int ((80 * x3) + x5), .ref b3, .ref r0]) dX7_makeShort_148 (fun _ => rfl) ?_
      obtain ⟨n4, hj, hn, hK, hL, h⟩ := h
      refine r_iald dX7_makeShort_149 hj hn hK hL ?_
      obtain ⟨hK, h⟩ := h
      exact r_call (th := false) dX7_makeShort_150 (fun _ => ex_calV rfl (by decide)) rfl (Nat.le_of_ble_eq_true rfl) (Nat.le_of_ble_eq_true rfl) (Nat.le_of_ble_eq_true rfl) (rcv0 rfl rfl (by decide) hK) rfl rfl rfl (fun q => nomatch q) h
theorem b127_153 {g : Nat → Nat} {C S : Nat} {σ : PS} {Q : Rs → PS → Prop} {r0 : Nat} {l1 : Option Value} {l2 : Option Value} {x3 : Int32} {l4 : Option Value} {x5 : Int32}
    (h : WP g C S 127 121 [some (.ref r0), l1, l2, some (.int x3), (clr l4), some (.int (x5 + 1))] [] σ Q) :
    WP g C S 127 153 [some (.ref r0), l1, l2, some (.int x3), l4, some (.int x5)] [] σ Q := by
  refine r_inc (v := 1) (ls' := [some (.ref r0), l1, l2, some (.int x3), (clr l4), some (.int (x5 + 1))]) dX7_makeShort_153 rfl (Nat.le_of_ble_eq_true rfl) (by decide) rfl ?_
  refine r_goto (t := 121) dX7_makeShort_156 (by decide) ?_
  exact h
theorem b127_159 {g : Nat → Nat} {C S : Nat} {σ : PS} {Q : Rs → PS → Prop} {l0 : Option Value} {l1 : Option Value} {l2 : Option Value} {l3 : Option Value} {l4 : Option Value} {l5 : Option Value}
    (h : Q (Sum.inl none) σ) :
    WP g C S 127 159 [l0, l1, l2, l3, l4, l5] [] σ Q := by
  exact r_vret dX7_makeShort_159 rfl h
theorem b128_0 {g : Nat → Nat} {C S : Nat} {σ : PS} {Q : Rs → PS → Prop} {r0 : Nat} {x1 : Int32} {x2 : Int32} {l3 : Option Value} {l4 : Option Value}
    (h : zK σ r0 = 9 ∧ WP g C S 110 0 [some (.ref r0), some (.int 0), some (.int x1), none, none, none, none, none, none, none, none, none, none, none] [] σ (KK g C S 128 6 [some (.ref r0), some (.int x1), some (.int x2), l3, l4] [] Q false)) :
    WP g C S 128 0 [some (.ref r0), some (.int x1), some (.int x2), l3, l4] [] σ Q := by
  refine r_g (pc' := 1) (ls' := [some (.ref r0), some (.int x1), some (.int x2), l3, l4]) (st' := [.ref r0]) dX7_makeLong_0 (fun _ => rfl) ?_
  refine r_ic (v := 0) dX7_makeLong_1 (by decide) ?_
  refine r_g (pc' := 3) (ls' := [some (.ref r0), some (.int x1), some (.int x2), l3, l4]) (st' := [.int x1, .int 0, .ref r0]) dX7_makeLong_2 (fun _ => rfl) ?_
  obtain ⟨hK, h⟩ := h
  exact r_call (th := false) dX7_makeLong_3 (fun _ => ex_calV rfl (by decide)) rfl (Nat.le_of_ble_eq_true rfl) (Nat.le_of_ble_eq_true rfl) (Nat.le_of_ble_eq_true rfl) (rcv0 rfl rfl (by decide) hK) rfl rfl rfl (fun q => nomatch q) h
theorem b128_6 {g : Nat → Nat} {C S : Nat} {σ : PS} {Q : Rs → PS → Prop} {r0 : Nat} {x1 : Int32} {x2 : Int32} {l3 : Option Value} {l4 : Option Value}
    (h : zK σ r0 = 9 ∧ ∃ b1, zP σ r0 19 = some b1 ∧ (∃ n2 : Nat, 0 = nI n2 ∧ n2 < 2147483648 ∧ (zK σ b1 = 101 ∨ zK σ b1 = 1002) ∧ n2 < zL σ b1 ∧ ((¬ (zI σ b1 n2 : Int32) = 0 → ((x2 : Int32) = 0 → WP g C S 128 53 [some (.ref r0), some (.int x1), some (.int x2), some (.int (zI σ b1 n2)), l4] [] σ Q) ∧ (¬ ((x2 : Int32) = 0) → zK σ r0 = 9 ∧ WP g C S 116 0 [some (.ref r0), some (.int 0), some (.int 0), some (.int 0), none, none] [] σ (KK g C S 128 38 [some (.ref r0), some (.int x1), some (.int x2), some (.int (zI σ b1 n2)), l4] [] Q false))) ∧ (¬ (¬ (zI σ b1 n2 : Int32) = 0) → zK σ r0 = 9 ∧ WP g C S 114 0 [some (.ref r0), some (.int x1), some (.int 16), none] [] σ (KK g C S 128 24 [some (.ref r0), some (.int x1), some (.int x2), some (.int (zI σ b1 n2)), l4] [] Q false))))) :
    WP g C S 128 6 [some (.ref r0), some (.int x1), some (.int x2), l3, l4] [] σ Q := by
  refine r_g (pc' := 7) (ls' := [some (.ref r0), some (.int x1), some (.int x2), l3, l4]) (st' := [.ref r0]) dX7_makeLong_6 (fun _ => rfl) ?_
  obtain ⟨hK, b1, hP, h⟩ := h
  refine r_getP dX7_makeLong_7 rfl (by decide) rfl hK hP ?_
  refine r_ic (v := 0) dX7_makeLong_10 (by decide) ?_
  obtain ⟨n2, hj, hn, hK, hL, h⟩ := h
  refine r_iald dX7_makeLong_11 hj hn hK hL ?_
  refine r_g (pc' := 13) (ls' := [some (.ref r0), some (.int x1), some (.int x2), some (.int (zI σ b1 n2)), l4]) (st' := []) dX7_makeLong_12 (fun _ => rfl) ?_
  refine r_g (pc' := 14) (ls' := [some (.ref r0), some (.int x1), some (.int x2), some (.int (zI σ b1 n2)), l4]) (st' := [.int (zI σ b1 n2)]) dX7_makeLong_13 (fun _ => rfl) ?_
  obtain ⟨h1, h2⟩ := h
  refine r_if (t := 27) dX7_makeLong_14 (by decide) c_ne (fun c => ?_) (fun c => ?_)
  · have h := h1 c
    refine r_g (pc' := 28) (ls' := [some (.ref r0), some (.int x1), some (.int x2), some (.int (zI σ b1 n2)), l4]) (st' := [.int x2]) dX7_makeLong_27 (fun _ => rfl) ?_
    obtain ⟨h1, h2⟩ := h
    refine r_if (t := 53) dX7_makeLong_28 (by decide) c_eq (fun c => ?_) (fun c => ?_)
    · have h := h1 c
      exact h
    · have h := h2 c
      refine r_g (pc' := 32) (ls' := [some (.ref r0), some (.int x1), some (.int x2), some (.int (zI σ b1 n2)), l4]) (st' := [.ref r0]) dX7_makeLong_31 (fun _ => rfl) ?_
      refine r_ic (v := 0) dX7_makeLong_32 (by decide) ?_
      refine r_ic (v := 0) dX7_makeLong_33 (by decide) ?_
      refine r_ic (v := 0) dX7_makeLong_34 (by decide) ?_
      obtain ⟨hK, h⟩ := h
      exact r_call (th := false) dX7_makeLong_35 (fun _ => ex_calV rfl (by decide)) rfl (Nat.le_of_ble_eq_true rfl) (Nat.le_of_ble_eq_true rfl) (Nat.le_of_ble_eq_true rfl) (rcv0 rfl rfl (by decide) hK) rfl rfl rfl (fun q => nomatch q) h
  · have h := h2 c
    refine r_g (pc' := 18) (ls' := [some (.ref r0), some (.int x1), some (.int x2), some (.int (zI σ b1 n2)), l4]) (st' := [.ref r0]) dX7_makeLong_17 (fun _ => rfl) ?_
    refine r_g (pc' := 19) (ls' := [some (.ref r0), some (.int x1), some (.int x2), some (.int (zI σ b1 n2)), l4]) (st' := [.int x1, .ref r0]) dX7_makeLong_18 (fun _ => rfl) ?_
    refine r_bi (v := 16) dX7_makeLong_19 (by decide) ?_
    obtain ⟨hK, h⟩ := h
    exact r_call (th := false) dX7_makeLong_21 (fun _ => ex_calV rfl (by decide)) rfl (Nat.le_of_ble_eq_true rfl) (Nat.le_of_ble_eq_true rfl) (Nat.le_of_ble_eq_true rfl) (rcv0 rfl rfl (by decide) hK) rfl rfl rfl (fun q => nomatch q) h
theorem b128_24 {g : Nat → Nat} {C S : Nat} {σ : PS} {Q : Rs → PS → Prop} {r0 : Nat} {x1 : Int32} {l2 : Option Value} {x3 : Int32} {l4 : Option Value}
    (h : WP g C S 128 59 [some (.ref r0), some (.int x1), l2, some (.int x3), l4] [] σ Q) :
    WP g C S 128 24 [some (.ref r0), some (.int x1), l2, some (.int x3), l4] [] σ Q := by
  refine r_goto (t := 59) dX7_makeLong_24 (by decide) ?_
  exact h
theorem b128_38 {g : Nat → Nat} {C S : Nat} {σ : PS} {Q : Rs → PS → Prop} {r0 : Nat} {x1 : Int32} {l2 : Option Value} {x3 : Int32} {l4 : Option Value} {u0 : Int32}
    (h : ((u0 : Int32) = 0 → WP g C S 128 53 [some (.ref r0), some (.int x1), l2, some (.int x3), l4] [] σ Q) ∧ (¬ ((u0 : Int32) = 0) → zK σ r0 = 9 ∧ WP g C S 118 0 [some (.ref r0), some (.int 0), some (.int 0), none, none] [] σ (KK g C S 128 47 [some (.ref r0), some (.int x1), l2, some (.int x3), l4] [] Q false))) :
    WP g C S 128 38 [some (.ref r0), some (.int x1), l2, some (.int x3), l4] [.int u0] σ Q := by
  obtain ⟨h1, h2⟩ := h
  refine r_if (t := 53) dX7_makeLong_38 (by decide) c_eq (fun c => ?_) (fun c => ?_)
  · have h := h1 c
    exact h
  · have h := h2 c
    refine r_g (pc' := 42) (ls' := [some (.ref r0), some (.int x1), l2, some (.int x3), l4]) (st' := [.ref r0]) dX7_makeLong_41 (fun _ => rfl) ?_
    refine r_ic (v := 0) dX7_makeLong_42 (by decide) ?_
    refine r_ic (v := 0) dX7_makeLong_43 (by decide) ?_
    obtain ⟨hK, h⟩ := h
    exact r_call (th := false) dX7_makeLong_44 (fun _ => ex_calV rfl (by decide)) rfl (Nat.le_of_ble_eq_true rfl) (Nat.le_of_ble_eq_true rfl) (Nat.le_of_ble_eq_true rfl) (rcv0 rfl rfl (by decide) hK) rfl rfl rfl (fun q => nomatch q) h
theorem b128_47 {g : Nat → Nat} {C S : Nat} {σ : PS} {Q : Rs → PS → Prop} {r0 : Nat} {x1 : Int32} {l2 : Option Value} {x3 : Int32} {l4 : Option Value}
    (h : zK σ r0 = 9 ∧ WP g C S 111 0 [some (.ref r0), some (.int 32)] [] σ (KK g C S 128 53 [some (.ref r0), some (.int x1), l2, some (.int x3), l4] [] Q false)) :
    WP g C S 128 47 [some (.ref r0), some (.int x1), l2, some (.int x3), l4] [] σ Q := by
  refine r_g (pc' := 48) (ls' := [some (.ref r0), some (.int x1), l2, some (.int x3), l4]) (st' := [.ref r0]) dX7_makeLong_47 (fun _ => rfl) ?_
  refine r_bi (v := 32) dX7_makeLong_48 (by decide) ?_
  obtain ⟨hK, h⟩ := h
  exact r_call (th := false) dX7_makeLong_50 (fun _ => ex_calV rfl (by decide)) rfl (Nat.le_of_ble_eq_true rfl) (Nat.le_of_ble_eq_true rfl) (Nat.le_of_ble_eq_true rfl) (rcv0 rfl rfl (by decide) hK) rfl rfl rfl (fun q => nomatch q) h
theorem b128_53 {g : Nat → Nat} {C S : Nat} {σ : PS} {Q : Rs → PS → Prop} {r0 : Nat} {x1 : Int32} {l2 : Option Value} {x3 : Int32} {l4 : Option Value}
    (h : zK σ r0 = 9 ∧ WP g C S 117 0 [some (.ref r0), some (.int 0), some (.int 0)] [] σ (KK g C S 128 59 [some (.ref r0), some (.int x1), l2, some (.int x3), l4] [] Q false)) :
    WP g C S 128 53 [some (.ref r0), some (.int x1), l2, some (.int x3), l4] [] σ Q := by
  refine r_g (pc' := 54) (ls' := [some (.ref r0), some (.int x1), l2, some (.int x3), l4]) (st' := [.ref r0]) dX7_makeLong_53 (fun _ => rfl) ?_
  refine r_ic (v := 0) dX7_makeLong_54 (by decide) ?_
  refine r_ic (v := 0) dX7_makeLong_55 (by decide) ?_
  obtain ⟨hK, h⟩ := h
  exact r_call (th := false) dX7_makeLong_56 (fun _ => ex_calV rfl (by decide)) rfl (Nat.le_of_ble_eq_true rfl) (Nat.le_of_ble_eq_true rfl) (Nat.le_of_ble_eq_true rfl) (rcv0 rfl rfl (by decide) hK) rfl rfl rfl (fun q => nomatch q) h
theorem b128_59 {g : Nat → Nat} {C S : Nat} {σ : PS} {Q : Rs → PS → Prop} {r0 : Nat} {x1 : Int32} {l2 : Option Value} {x3 : Int32} {l4 : Option Value}
    (h : (¬ (x3 : Int32) = 2 → WP g C S 128 77 [some (.ref r0), some (.int x1), l2, some (.int x3), l4] [] σ Q) ∧ (¬ (¬ (x3 : Int32) = 2) → zK σ r0 = 9 ∧ WP g C S 112 0 [some (.ref r0), some (.long 139123908896), none, none, none] [] σ (KK g C S 128 71 [some (.ref r0), some (.int x1), l2, some (.int x3), l4] [] Q false))) :
    WP g C S 128 59 [some (.ref r0), some (.int x1), l2, some (.int x3), l4] [] σ Q := by
  refine r_g (pc' := 60) (ls' := [some (.ref r0), some (.int x1), l2, some (.int x3), l4]) (st' := [.int x3]) dX7_makeLong_59 (fun _ => rfl) ?_
  refine r_ic (v := 2) dX7_makeLong_60 (by decide) ?_
  obtain ⟨h1, h2⟩ := h
  refine r_icmp (t := 77) dX7_makeLong_61 (by decide) c_ne (fun c => ?_) (fun c => ?_)
  · have h := h1 c
    exact h
  · have h := h2 c
    refine r_g (pc' := 65) (ls' := [some (.ref r0), some (.int x1), l2, some (.int x3), l4]) (st' := [.ref r0]) dX7_makeLong_64 (fun _ => rfl) ?_
    refine r_ldc2 dX7_makeLong_65 rfl ?_
    obtain ⟨hK, h⟩ := h
    exact r_call (th := false) dX7_makeLong_68 (fun _ => ex_calV rfl (by decide)) rfl (Nat.le_of_ble_eq_true rfl) (Nat.le_of_ble_eq_true rfl) (Nat.le_of_ble_eq_true rfl) (rcv0 rfl rfl (by decide) hK) rfl rfl rfl (fun q => nomatch q) h
theorem b128_71 {g : Nat → Nat} {C S : Nat} {σ : PS} {Q : Rs → PS → Prop} {r0 : Nat} {x1 : Int32} {l2 : Option Value} {x3 : Int32} {l4 : Option Value}
    (h : zK σ r0 = 9 ∧ WP g C S 117 0 [some (.ref r0), some (.int 0), some (.int 1)] [] σ (KK g C S 128 77 [some (.ref r0), some (.int x1), l2, some (.int x3), l4] [] Q false)) :
    WP g C S 128 71 [some (.ref r0), some (.int x1), l2, some (.int x3), l4] [] σ Q := by
  refine r_g (pc' := 72) (ls' := [some (.ref r0), some (.int x1), l2, some (.int x3), l4]) (st' := [.ref r0]) dX7_makeLong_71 (fun _ => rfl) ?_
  refine r_ic (v := 0) dX7_makeLong_72 (by decide) ?_
  refine r_ic (v := 1) dX7_makeLong_73 (by decide) ?_
  obtain ⟨hK, h⟩ := h
  exact r_call (th := false) dX7_makeLong_74 (fun _ => ex_calV rfl (by decide)) rfl (Nat.le_of_ble_eq_true rfl) (Nat.le_of_ble_eq_true rfl) (Nat.le_of_ble_eq_true rfl) (rcv0 rfl rfl (by decide) hK) rfl rfl rfl (fun q => nomatch q) h
theorem b128_77 {g : Nat → Nat} {C S : Nat} {σ : PS} {Q : Rs → PS → Prop} {r0 : Nat} {x1 : Int32} {l2 : Option Value} {x3 : Int32} {l4 : Option Value}
    (h : ((x3 : Int32) ≤ 2 → WP g C S 128 89 [some (.ref r0), some (.int x1), l2, some (.int x3), l4] [] σ Q) ∧ (¬ ((x3 : Int32) ≤ 2) → zK σ r0 = 9 ∧ WP g C S 112 0 [some (.ref r0), some (.long 13067013340816672), none, none, none] [] σ (KK g C S 128 89 [some (.ref r0), some (.int x1), l2, some (.int x3), l4] [] Q false))) :
    WP g C S 128 77 [some (.ref r0), some (.int x1), l2, some (.int x3), l4] [] σ Q := by
  refine r_g (pc' := 78) (ls' := [some (.ref r0), some (.int x1), l2, some (.int x3), l4]) (st' := [.int x3]) dX7_makeLong_77 (fun _ => rfl) ?_
  refine r_ic (v := 2) dX7_makeLong_78 (by decide) ?_
  obtain ⟨h1, h2⟩ := h
  refine r_icmp (t := 89) dX7_makeLong_79 (by decide) c_le (fun c => ?_) (fun c => ?_)
  · have h := h1 c
    exact h
  · have h := h2 c
    refine r_g (pc' := 83) (ls' := [some (.ref r0), some (.int x1), l2, some (.int x3), l4]) (st' := [.ref r0]) dX7_makeLong_82 (fun _ => rfl) ?_
    refine r_ldc2 dX7_makeLong_83 rfl ?_
    obtain ⟨hK, h⟩ := h
    exact r_call (th := false) dX7_makeLong_86 (fun _ => ex_calV rfl (by decide)) rfl (Nat.le_of_ble_eq_true rfl) (Nat.le_of_ble_eq_true rfl) (Nat.le_of_ble_eq_true rfl) (rcv0 rfl rfl (by decide) hK) rfl rfl rfl (fun q => nomatch q) h
theorem b128_89 {g : Nat → Nat} {C S : Nat} {σ : PS} {Q : Rs → PS → Prop} {r0 : Nat} {x1 : Int32} {l2 : Option Value} {l3 : Option Value} {l4 : Option Value}
    (h : zK σ r0 = 9 ∧ WP g C S 103 0 [some (.ref r0), some (.int x1), some (.int 2), none] [] σ (KK g C S 128 95 [some (.ref r0), some (.int x1), l2, l3, l4] [] Q false)) :
    WP g C S 128 89 [some (.ref r0), some (.int x1), l2, l3, l4] [] σ Q := by
  refine r_g (pc' := 90) (ls' := [some (.ref r0), some (.int x1), l2, l3, l4]) (st' := [.ref r0]) dX7_makeLong_89 (fun _ => rfl) ?_
  refine r_g (pc' := 91) (ls' := [some (.ref r0), some (.int x1), l2, l3, l4]) (st' := [.int x1, .ref r0]) dX7_makeLong_90 (fun _ => rfl) ?_
  refine r_ic (v := 2) dX7_makeLong_91 (by decide) ?_
  obtain ⟨hK, h⟩ := h
  exact r_call (th := false) dX7_makeLong_92 (fun _ => ex_calV rfl (by decide)) rfl (Nat.le_of_ble_eq_true rfl) (Nat.le_of_ble_eq_true rfl) (Nat.le_of_ble_eq_true rfl) (rcv0 rfl rfl (by decide) hK) rfl rfl rfl (fun q => nomatch q) h
theorem b128_95 {g : Nat → Nat} {C S : Nat} {σ : PS} {Q : Rs → PS → Prop} {r0 : Nat} {l1 : Option Value} {l2 : Option Value} {l3 : Option Value} {l4 : Option Value} {u0 : Int32}
    (h : ((u0 : Int32) = (-1) → WP g C S 128 115 [some (.ref r0), l1, l2, (clr l3), some (.int u0)] [] σ Q) ∧ (¬ ((u0 : Int32) = (-1)) → zK σ r0 = 9 ∧ WP g C S 111 0 [some (.ref r0), some (.int 32)] [] σ (KK g C S 128 109 [some (.ref r0), l1, l2, (clr l3), some (.int u0)] [] Q false))) :
    WP g C S 128 95 [some (.ref r0), l1, l2, l3, l4] [.int u0] σ Q := by
  refine r_g (pc' := 97) (ls' := [some (.ref r0), l1, l2, (clr l3), some (.int u0)]) (st' := []) dX7_makeLong_95 (fun _ => rfl) ?_
  refine r_g (pc' := 99) (ls' := [some (.ref r0), l1, l2, (clr l3), some (.int u0)]) (st' := [.int u0]) dX7_makeLong_97 (fun _ => rfl) ?_
  refine r_ic (v := -1) dX7_makeLong_99 (by decide) ?_
  obtain ⟨h1, h2⟩ := h
  refine r_icmp (t := 115) dX7_makeLong_100 (by decide) c_eq (fun c => ?_) (fun c => ?_)
  · have h := h1 c
    exact h
  · have h := h2 c
    refine r_g (pc' := 104) (ls' := [some (.ref r0), l1, l2, (clr l3), some (.int u0)]) (st' := [.ref r0]) dX7_makeLong_103 (fun _ => rfl) ?_
    refine r_bi (v := 32) dX7_makeLong_104 (by decide) ?_
    obtain ⟨hK, h⟩ := h
    exact r_call (th := false) dX7_makeLong_106 (fun _ => ex_calV rfl (by decide)) rfl (Nat.le_of_ble_eq_true rfl) (Nat.le_of_ble_eq_true rfl) (Nat.le_of_ble_eq_true rfl) (rcv0 rfl rfl (by decide) hK) rfl rfl rfl (fun q => nomatch q) h
theorem b128_109 {g : Nat → Nat} {C S : Nat} {σ : PS} {Q : Rs → PS → Prop} {r0 : Nat} {l1 : Option Value} {l2 : Option Value} {l3 : Option Value} {x4 : Int32}
    (h : zK σ r0 = 9 ∧ WP g C S 113 0 [some (.ref r0), some (.int x4), none] [] σ (KK g C S 128 115 [some (.ref r0), l1, l2, l3, some (.int x4)] [] Q false)) :
    WP g C S 128 109 [some (.ref r0), l1, l2, l3, some (.int x4)] [] σ Q := by
  refine r_g (pc' := 110) (ls' := [some (.ref r0), l1, l2, l3, some (.int x4)]) (st' := [.ref r0]) dX7_makeLong_109 (fun _ => rfl) ?_
  refine r_g (pc' := 112) (ls' := [some (.ref r0), l1, l2, l3, some (.int x4)]) (st' := [.int x4, .ref r0]) dX7_makeLong_110 (fun _ => rfl) ?_
  obtain ⟨hK, h⟩ := h
  exact r_call (th := false) dX7_makeLong_112 (fun _ => ex_calV rfl (by decide)) rfl (Nat.le_of_ble_eq_true rfl) (Nat.le_of_ble_eq_true rfl) (Nat.le_of_ble_eq_true rfl) (rcv0 rfl rfl (by decide) hK) rfl rfl rfl (fun q => nomatch q) h
theorem b128_115 {g : Nat → Nat} {C S : Nat} {σ : PS} {Q : Rs → PS → Prop} {l0 : Option Value} {l1 : Option Value} {l2 : Option Value} {l3 : Option Value} {l4 : Option Value}
    (h : Q (Sum.inl none) σ) :
    WP g C S 128 115 [l0, l1, l2, l3, l4] [] σ Q := by
  exact r_vret dX7_makeLong_115 rfl h
theorem b129_0 {g : Nat → Nat} {C S : Nat} {σ : PS} {Q : Rs → PS → Prop} {r0 : Nat} {x1 : Int32} {l2 : Option Value} {l3 : Option Value} {l4 : Option Value}
    (h : zK σ r0 = 9 ∧ ∃ b1, zP σ r0 26 = some b1 ∧ (∃ n2 : Nat, x1 = nI n2 ∧ n2 < 2147483648 ∧ (zK σ b1 = 101 ∨ zK σ b1 = 1002) ∧ n2 < zL σ b1 ∧ (zK σ r0 = 9 ∧ (¬ (zI σ r0 12 : Int32) = 2 → WP g C S 129 27 [some (.ref r0), some (.int x1), some (.int (zI σ b1 n2)), l3, l4] [] σ Q) ∧ (¬ (¬ (zI σ r0 12 : Int32) = 2) → zK σ r0 = 9 ∧ WP g C S 126 0 [some (.ref r0), some (.int (zI σ b1 n2)), none, none] [] σ (KK g C S 129 20 [some (.ref r0), some (.int x1), some (.int (zI σ b1 n2)), l3, l4] [] Q false))))) :
    WP g C S 129 0 [some (.ref r0), some (.int x1), l2, l3, l4] [] σ Q := by
  refine r_g (pc' := 1) (ls' := [some (.ref r0), some (.int x1), l2, l3, l4]) (st' := [.ref r0]) dX7_makeBase_0 (fun _ => rfl) ?_
  obtain ⟨hK, b1, hP, h⟩ := h
  refine r_getP dX7_makeBase_1 rfl (by decide) rfl hK hP ?_
  refine r_g (pc' := 5) (ls' := [some (.ref r0), some (.int x1), l2, l3, l4]) (st' := [.int x1, .ref b1]) dX7_makeBase_4 (fun _ => rfl) ?_
  obtain ⟨n2, hj, hn, hK, hL, h⟩ := h
  refine r_iald dX7_makeBase_5 hj hn hK hL ?_
  refine r_g (pc' := 7) (ls' := [some (.ref r0), some (.int x1), some (.int (zI σ b1 n2)), l3, l4]) (st' := []) dX7_makeBase_6 (fun _ => rfl) ?_
  refine r_g (pc' := 8) (ls' := [some (.ref r0), some (.int x1), some (.int (zI σ b1 n2)), l3, l4]) (st' := [.ref r0]) dX7_makeBase_7 (fun _ => rfl) ?_
  obtain ⟨hK, h⟩ := h
  refine r_getI dX7_makeBase_8 rfl (by decide) rfl hK ?_
  refine r_ic (v := 2) dX7_makeBase_11 (by decide) ?_
  obtain ⟨h1, h2⟩ := h
  refine r_icmp (t := 27) dX7_makeBase_12 (by decide) c_ne (fun c => ?_) (fun c => ?_)
  · have h := h1 c
    exact h
  · have h := h2 c
    refine r_g (pc' := 16) (ls' := [some (.ref r0), some (.int x1), some (.int (zI σ b1 n2)), l3, l4]) (st' := [.ref r0]) dX7_makeBase_15 (fun _ => rfl) ?_
    refine r_g (pc' := 17) (ls' := [some (.ref r0), some (.int x1), some (.int (zI σ b1 n2)), l3, l4]) (st' := [.int (zI σ b1 n2), .ref r0]) dX7_makeBase_16 (fun _ => rfl) ?_
    obtain ⟨hK, h⟩ := h
    exact r_call (th := false) dX7_makeBase_17 (fun _ => ex_calV rfl (by decide)) rfl (Nat.le_of_ble_eq_true rfl) (Nat.le_of_ble_eq_true rfl) (Nat.le_of_ble_eq_true rfl) (rcv0 rfl rfl (by decide) hK) rfl rfl rfl (fun q => nomatch q) h
theorem b129_20 {g : Nat → Nat} {C S : Nat} {σ : PS} {Q : Rs → PS → Prop} {r0 : Nat} {x1 : Int32} {x2 : Int32} {l3 : Option Value} {l4 : Option Value} {u0 : Int32}
    (h : ((u0 : Int32) = 0 → WP g C S 129 27 [some (.ref r0), some (.int x1), some (.int x2), l3, l4] [] σ Q) ∧ (¬ ((u0 : Int32) = 0) → WP g C S 129 28 [some (.ref r0), some (.int x1), some (.int x2), l3, l4] [.int 1] σ Q)) :
    WP g C S 129 20 [some (.ref r0), some (.int x1), some (.int x2), l3, l4] [.int u0] σ Q := by
  obtain ⟨h1, h2⟩ := h
  refine r_if (t := 27) dX7_makeBase_20 (by decide) c_eq (fun c => ?_) (fun c => ?_)
  · have h := h1 c
    exact h
  · have h := h2 c
    refine r_ic (v := 1) dX7_makeBase_23 (by decide) ?_
    refine r_goto (t := 28) dX7_makeBase_24 (by decide) ?_
    exact h
theorem b129_27 {g : Nat → Nat} {C S : Nat} {σ : PS} {Q : Rs → PS → Prop} {r0 : Nat} {x1 : Int32} {x2 : Int32} {l3 : Option Value} {l4 : Option Value}
    (h : WP g C S 129 28 [some (.ref r0), some (.int x1), some (.int x2), l3, l4] [.int 0] σ Q) :
    WP g C S 129 27 [some (.ref r0), some (.int x1), some (.int x2), l3, l4] [] σ Q := by
  refine r_ic (v := 0) dX7_makeBase_27 (by decide) ?_
  exact h
theorem b129_28 {g : Nat → Nat} {C S : Nat} {σ : PS} {Q : Rs → PS → Prop} {r0 : Nat} {x1 : Int32} {x2 : Int32} {l3 : Option Value} {l4 : Option Value} {u0 : Int32}
    (h : zK σ r0 = 9 ∧ (∀ τ1, τ1 = stI σ r0 21 0 → zK τ1 r0 = 9 ∧ (¬ (zI τ1 r0 12 : Int32) = 1 → zK τ1 r0 = 9 ∧ (¬ (zI τ1 r0 12 : Int32) = 2 → WP g C S 129 64 [some (.ref r0), some (.int x1), some (.int x2), some (.int u0), l4] [] τ1 Q) ∧ (¬ (¬ (zI τ1 r0 12 : Int32) = 2) → zK τ1 r0 = 9 ∧ WP g C S 128 0 [some (.ref r0), some (.int x2), some (.int u0), none, none] [] τ1 (KK g C S 129 64 [some (.ref r0), some (.int x1), some (.int x2), some (.int u0), l4] [] Q false))) ∧ (¬ (¬ (zI τ1 r0 12 : Int32) = 1) → zK τ1 r0 = 9 ∧ WP g C S 127 0 [some (.ref r0), some (.int x2), none, none, none, none] [] τ1 (KK g C S 129 47 [some (.ref r0), some (.int x1), some (.int x2), some (.int u0), l4] [] Q false)))) :
    WP g C S 129 28 [some (.ref r0), some (.int x1), some (.int x2), l3, l4] [.int u0] σ Q := by
  refine r_g (pc' := 29) (ls' := [some (.ref r0), some (.int x1), some (.int x2), some (.int u0), l4]) (st' := []) dX7_makeBase_28 (fun _ => rfl) ?_
  refine r_g (pc' := 30) (ls' := [some (.ref r0), some (.int x1), some (.int x2), some (.int u0), l4]) (st' := [.ref r0]) dX7_makeBase_29 (fun _ => rfl) ?_
  refine r_ic (v := 0) dX7_makeBase_30 (by decide) ?_
  obtain ⟨hK, h⟩ := h
  refine r_putI dX7_makeBase_31 rfl (by decide) (Or.inl rfl) rfl (Or.inl rfl) hK ?_
  generalize eτ1 : stI σ r0 21 0 = τ1
  replace h := h _ eτ1.symm
  refine r_g (pc' := 35) (ls' := [some (.ref r0), some (.int x1), some (.int x2), some (.int u0), l4]) (st' := [.ref r0]) dX7_makeBase_34 (fun _ => rfl) ?_
  obtain ⟨hK, h⟩ := h
  refine r_getI dX7_makeBase_35 rfl (by decide) rfl hK ?_
  refine r_ic (v := 1) dX7_makeBase_38 (by decide) ?_
  obtain ⟨h1, h2⟩ := h
  refine r_icmp (t := 50) dX7_makeBase_39 (by decide) c_ne (fun c => ?_) (fun c => ?_)
  · have h := h1 c
    refine r_g (pc' := 51) (ls' := [some (.ref r0), some (.int x1), some (.int x2), some (.int u0), l4]) (st' := [.ref r0]) dX7_makeBase_50 (fun _ => rfl) ?_
    obtain ⟨hK, h⟩ := h
    refine r_getI dX7_makeBase_51 rfl (by decide) rfl hK ?_
    refine r_ic (v := 2) dX7_makeBase_54 (by decide) ?_
    obtain ⟨h1, h2⟩ := h
    refine r_icmp (t := 64) dX7_makeBase_55 (by decide) c_ne (fun c => ?_) (fun c => ?_)
    · have h := h1 c
      exact h
    · have h := h2 c
      refine r_g (pc' := 59) (ls' := [some (.ref r0), some (.int x1), some (.int x2), some (.int u0), l4]) (st' := [.ref r0]) dX7_makeBase_58 (fun _ => rfl) ?_
      refine r_g (pc' := 60) (ls' := [some (.ref r0), some (.int x1), some (.int x2), some (.int u0), l4]) (st' := [.int x2, .ref r0]) dX7_makeBase_59 (fun _ => rfl) ?_
      refine r_g (pc' := 61) (ls' := [some (.ref r0), some (.int x1), some (.int x2), some (.int u0), l4]) (st' := [.int u0, .int x2, .ref r0]) dX7_makeBase_60 (fun _ => rfl) ?_
      obtain ⟨hK, h⟩ := h
      exact r_call (th := false) dX7_makeBase_61 (fun _ => ex_calV rfl (by decide)) rfl (Nat.le_of_ble_eq_true rfl) (Nat.le_of_ble_eq_true rfl) (Nat.le_of_ble_eq_true rfl) (rcv0 rfl rfl (by decide) hK) rfl rfl rfl (fun q => nomatch q) h
  · have h := h2 c
    refine r_g (pc' := 43) (ls' := [some (.ref r0), some (.int x1), some (.int x2), some (.int u0), l4]) (st' := [.ref r0]) dX7_makeBase_42 (fun _ => rfl) ?_
    refine r_g (pc' := 44) (ls' := [some (.ref r0), some (.int x1), some (.int x2), some (.int u0), l4]) (st' := [.int x2, .ref r0]) dX7_makeBase_43 (fun _ => rfl) ?_
    obtain ⟨hK, h⟩ := h
    exact r_call (th := false) dX7_makeBase_44 (fun _ => ex_calV rfl (by decide)) rfl (Nat.le_of_ble_eq_true rfl) (Nat.le_of_ble_eq_true rfl) (Nat.le_of_ble_eq_true rfl) (rcv0 rfl rfl (by decide) hK) rfl rfl rfl (fun q => nomatch q) h
theorem b129_47 {g : Nat → Nat} {C S : Nat} {σ : PS} {Q : Rs → PS → Prop} {r0 : Nat} {x1 : Int32} {l2 : Option Value} {l3 : Option Value} {l4 : Option Value}
    (h : WP g C S 129 64 [some (.ref r0), some (.int x1), l2, l3, l4] [] σ Q) :
    WP g C S 129 47 [some (.ref r0), some (.int x1), l2, l3, l4] [] σ Q := by
  refine r_goto (t := 64) dX7_makeBase_47 (by decide) ?_
  exact h
theorem b129_64 {g : Nat → Nat} {C S : Nat} {σ : PS} {Q : Rs → PS → Prop} {r0 : Nat} {x1 : Int32} {l2 : Option Value} {l3 : Option Value} {l4 : Option Value}
    (h : zK σ r0 = 9 ∧ ∃ b1, zP σ r0 28 = some b1 ∧ (zK σ r0 = 9 ∧ ∃ n2 : Nat, x1 = nI n2 ∧ n2 < 2147483648 ∧ zK σ b1 = 101 ∧ n2 < zL σ b1 ∧ (∀ τ3, τ3 = stI σ b1 n2 (zI σ r0 21) → WP g C S 129 77 [some (.ref r0), some (.int x1), l2, (clr l3), some (.int 0)] [] τ3 Q))) :
    WP g C S 129 64 [some (.ref r0), some (.int x1), l2, l3, l4] [] σ Q := by
  refine r_g (pc' := 65) (ls' := [some (.ref r0), some (.int x1), l2, l3, l4]) (st' := [.ref r0]) dX7_makeBase_64 (fun _ => rfl) ?_
  obtain ⟨hK, b1, hP, h⟩ := h
  refine r_getP dX7_makeBase_65 rfl (by decide) rfl hK hP ?_
  refine r_g (pc' := 69) (ls' := [some (.ref r0), some (.int x1), l2, l3, l4]) (st' := [.int x1, .ref b1]) dX7_makeBase_68 (fun _ => rfl) ?_
  refine r_g (pc' := 70) (ls' := [some (.ref r0), some (.int x1), l2, l3, l4]) (st' := [.ref r0, .int x1, .ref b1]) dX7_makeBase_69 (fun _ => rfl) ?_
  obtain ⟨hK, h⟩ := h
  refine r_getI dX7_makeBase_70 rfl (by decide) rfl hK ?_
  obtain ⟨n2, hj, hn, hK, hL, h⟩ := h
  refine r_iast dX7_makeBase_73 hj hn hK hL ?_
  generalize eτ3 : stI σ b1 n2 (zI σ r0 21) = τ3
  replace h := h _ eτ3.symm
  refine r_ic (v := 0) dX7_makeBase_74 (by decide) ?_
  refine r_g (pc' := 77) (ls' := [some (.ref r0), some (.int x1), l2, (clr l3), some (.int 0)]) (st' := []) dX7_makeBase_75 (fun _ => rfl) ?_
  exact h
theorem b129_77 {g : Nat → Nat} {C S : Nat} {σ : PS} {Q : Rs → PS → Prop} {r0 : Nat} {x1 : Int32} {l2 : Option Value} {l3 : Option Value} {x4 : Int32}
    (h : zK σ r0 = 9 ∧ ((zI σ r0 21 : Int32) ≤ x4 → Q (Sum.inl none) σ) ∧ (¬ ((zI σ r0 21 : Int32) ≤ x4) → zK σ r0 = 9 ∧ ∃ b1, zP σ r0 29 = some b1 ∧ (zK σ r0 = 9 ∧ ∃ b2, zP σ r0 20 = some b2 ∧ (∃ n3 : Nat, x4 = nI n3 ∧ n3 < 2147483648 ∧ (zK σ b2 = 101 ∨ zK σ b2 = 1002) ∧ n3 < zL σ b2 ∧ (∃ n4 : Nat, (400 * x1) + x4 = nI n4 ∧ n4 < 2147483648 ∧ zK σ b1 = 101 ∧ n4 < zL σ b1 ∧ (∀ τ5, τ5 = stI σ b1 n4 (zI σ b2 n3) → WP g C S 129 77 [some (.ref r0), some (.int x1), l2, (clr l3), some (.int (x4 + 1))] [] τ5 Q)))))) :
    WP g C S 129 77 [some (.ref r0), some (.int x1), l2, l3, some (.int x4)] [] σ Q := by
  refine r_g (pc' := 79) (ls' := [some (.ref r0), some (.int x1), l2, l3, some (.int x4)]) (st' := [.int x4]) dX7_makeBase_77 (fun _ => rfl) ?_
  refine r_g (pc' := 80) (ls' := [some (.ref r0), some (.int x1), l2, l3, some (.int x4)]) (st' := [.ref r0, .int x4]) dX7_makeBase_79 (fun _ => rfl) ?_
  obtain ⟨hK, h⟩ := h
  refine r_getI dX7_makeBase_80 rfl (by decide) rfl hK ?_
  obtain ⟨h1, h2⟩ := h
  refine r_icmp (t := 112) dX7_makeBase_83 (by decide) c_ge (fun c => ?_) (fun c => ?_)
  · have h := h1 c
    exact r_vret dX7_makeBase_112 rfl h
  · have h := h2 c
    refine r_g (pc' := 87) (ls' := [some (.ref r0), some (.int x1), l2, l3, some (.int x4)]) (st' := [.ref r0]) dX7_makeBase_86 (fun _ => rfl) ?_
    obtain ⟨hK, b1, hP, h⟩ := h
    refine r_getP dX7_makeBase_87 rfl (by decide) rfl hK hP ?_
    refine r_si (v := 400) dX7_makeBase_90 (by decide) ?_
    refine r_g (pc' := 94) (ls' := [some (.ref r0), some (.int x1), l2, l3, some (.int x4)]) (st' := [.int x1, .int 400, .ref b1]) dX7_makeBase_93 (fun _ => rfl) ?_
    refine r_g (pc' := 95) (ls' := [some (.ref r0), some (.int x1), l2, l3, some (.int x4)]) (st' := [.int (400 * x1), .ref b1]) dX7_makeBase_94 (fun _ => rfl) ?_
    refine r_g (pc' := 97) (ls' := [some (.ref r0), some (.int x1), l2, l3, some (.int x4)]) (st' := [.int x4, .int (400 * x1), .ref b1]) dX7_makeBase_95 (fun _ => rfl) ?_
    refine r_g (pc' := 98) (ls' := [some (.ref r0), some (.int x1), l2, l3, some (.int x4)]) (st' := [.int ((400 * x1) + x4), .ref b1]) dX7_makeBase_97 (fun _ => rfl) ?_
    refine r_g (pc' := 99) (ls' := [some (.ref r0), some (.int x1), l2, l3, some (.int x4)]) (st' := [.ref r0, .int ((400 * x1) + x4), .ref b1]) dX7_makeBase_98 (fun _ => rfl) ?_
    obtain ⟨hK, b2, hP, h⟩ := h
    refine r_getP dX7_makeBase_99 rfl (by decide) rfl hK hP ?_
    refine r_g (pc' := 104) (ls' := [some (.ref r0), some (.int x1), l2, l3, some (.int x4)]) (st' := [.int x4, .ref b2, .int ((400 * x1) + x4), .ref b1]) dX7_makeBase_102 (fun _ => rfl) ?_
    obtain ⟨n3, hj, hn, hK, hL, h⟩ := h
    refine r_iald dX7_makeBase_104 hj hn hK hL ?_
    obtain ⟨n4, hj, hn, hK, hL, h⟩ := h
    refine r_iast dX7_makeBase_105 hj hn hK hL ?_
    generalize eτ5 : stI σ b1 n4 (zI σ b2 n3) = τ5
    replace h := h _ eτ5.symm
    refine r_inc (v := 1) (ls' := [some (.ref r0), some (.int x1), l2, (clr l3), some (.int (x4 + 1))]) dX7_makeBase_106 rfl (Nat.le_of_ble_eq_true rfl) (by decide) rfl ?_
    refine r_goto (t := 77) dX7_makeBase_109 (by decide) ?_
    exact h
