theorem b130_0 {g : Nat → Nat} {C S : Nat} {σ : PS} {Q : Rs → PS → Prop} {r0 : Nat} {x1 : Int32} {x2 : Int32} {l3 : Option Value} {l4 : Option Value}
    (h : zK σ r0 = 9 ∧ ∃ b1, zP σ r0 28 = some b1 ∧ (∃ n2 : Nat, x1 = nI n2 ∧ n2 < 2147483648 ∧ (zK σ b1 = 101 ∨ zK σ b1 = 1002) ∧ n2 < zL σ b1 ∧ (zK σ r0 = 9 ∧ ∃ b3, zP σ r0 28 = some b3 ∧ (∃ n4 : Nat, x2 = nI n4 ∧ n4 < 2147483648 ∧ (zK σ b3 = 101 ∨ zK σ b3 = 1002) ∧ n4 < zL σ b3 ∧ ((¬ (zI σ b1 n2 : Int32) = (zI σ b3 n4) → WP g C S 130 20 [some (.ref r0), some (.int x1), some (.int x2), l3, l4] [.int 0] σ Q) ∧ (¬ (¬ (zI σ b1 n2 : Int32) = (zI σ b3 n4)) → WP g C S 130 20 [some (.ref r0), some (.int x1), some (.int x2), l3, l4] [.int 1] σ Q)))))) :
    WP g C S 130 0 [some (.ref r0), some (.int x1), some (.int x2), l3, l4] [] σ Q := by
  refine r_g (pc' := 1) (ls' := [some (.ref r0), some (.int x1), some (.int x2), l3, l4]) (st' := [.ref r0]) dX7_isSameBase_0 (fun _ => rfl) ?_
  obtain ⟨hK, b1, hP, h⟩ := h
  refine r_getP dX7_isSameBase_1 rfl (by decide) rfl hK hP ?_
  refine r_g (pc' := 5) (ls' := [some (.ref r0), some (.int x1), some (.int x2), l3, l4]) (st' := [.int x1, .ref b1]) dX7_isSameBase_4 (fun _ => rfl) ?_
  obtain ⟨n2, hj, hn, hK, hL, h⟩ := h
  refine r_iald dX7_isSameBase_5 hj hn hK hL ?_
  refine r_g (pc' := 7) (ls' := [some (.ref r0), some (.int x1), some (.int x2), l3, l4]) (st' := [.ref r0, .int (zI σ b1 n2)]) dX7_isSameBase_6 (fun _ => rfl) ?_
  obtain ⟨hK, b3, hP, h⟩ := h
  refine r_getP dX7_isSameBase_7 rfl (by decide) rfl hK hP ?_
  refine r_g (pc' := 11) (ls' := [some (.ref r0), some (.int x1), some (.int x2), l3, l4]) (st' := [.int x2, .ref b3, .int (zI σ b1 n2)]) dX7_isSameBase_10 (fun _ => rfl) ?_
  obtain ⟨n4, hj, hn, hK, hL, h⟩ := h
  refine r_iald dX7_isSameBase_11 hj hn hK hL ?_
  obtain ⟨h1, h2⟩ := h
  refine r_icmp (t := 19) dX7_isSameBase_12 (by decide) c_ne (fun c => ?_) (fun c => ?_)
  · have h := h1 c
    refine r_ic (v := 0) dX7_isSameBase_19 (by decide) ?_
    exact h
  · have h := h2 c
    refine r_ic (v := 1) dX7_isSameBase_15 (by decide) ?_
    refine r_goto (t := 20) dX7_isSameBase_16 (by decide) ?_
    exact h
theorem b130_20 {g : Nat → Nat} {C S : Nat} {σ : PS} {Q : Rs → PS → Prop} {r0 : Nat} {x1 : Int32} {x2 : Int32} {l3 : Option Value} {l4 : Option Value} {u0 : Int32}
    (h : WP g C S 130 24 [some (.ref r0), some (.int x1), some (.int x2), some (.int u0), some (.int 0)] [] σ Q) :
    WP g C S 130 20 [some (.ref r0), some (.int x1), some (.int x2), l3, l4] [.int u0] σ Q := by
  refine r_g (pc' := 21) (ls' := [some (.ref r0), some (.int x1), some (.int x2), some (.int u0), l4]) (st' := []) dX7_isSameBase_20 (fun _ => rfl) ?_
  refine r_ic (v := 0) dX7_isSameBase_21 (by decide) ?_
  refine r_g (pc' := 24) (ls' := [some (.ref r0), some (.int x1), some (.int x2), some (.int u0), some (.int 0)]) (st' := []) dX7_isSameBase_22 (fun _ => rfl) ?_
  exact h
theorem b130_24 {g : Nat → Nat} {C S : Nat} {σ : PS} {Q : Rs → PS → Prop} {r0 : Nat} {x1 : Int32} {x2 : Int32} {x3 : Int32} {x4 : Int32}
    (h : zK σ r0 = 9 ∧ ∃ b1, zP σ r0 28 = some b1 ∧ (∃ n2 : Nat, x1 = nI n2 ∧ n2 < 2147483648 ∧ (zK σ b1 = 101 ∨ zK σ b1 = 1002) ∧ n2 < zL σ b1 ∧ (((zI σ b1 n2 : Int32) ≤ x4 → WP g C S 130 80 [some (.ref r0), some (.int x1), some (.int x2), some (.int x3), some (.int x4)] [] σ Q) ∧ (¬ ((zI σ b1 n2 : Int32) ≤ x4) → ((x3 : Int32) = 0 → WP g C S 130 80 [some (.ref r0), some (.int x1), some (.int x2), some (.int x3), some (.int x4)] [] σ Q) ∧ (¬ ((x3 : Int32) = 0) → zK σ r0 = 9 ∧ ∃ b3, zP σ r0 29 = some b3 ∧ (∃ n4 : Nat, (400 * x1) + x4 = nI n4 ∧ n4 < 2147483648 ∧ (zK σ b3 = 101 ∨ zK σ b3 = 1002) ∧ n4 < zL σ b3 ∧ (zK σ r0 = 9 ∧ ∃ b5, zP σ r0 29 = some b5 ∧ (∃ n6 : Nat, (400 * x2) + x4 = nI n6 ∧ n6 < 2147483648 ∧ (zK σ b5 = 101 ∨ zK σ b5 = 1002) ∧ n6 < zL σ b5 ∧ ((¬ (zI σ b3 n4 : Int32) = (zI σ b5 n6) → WP g C S 130 73 [some (.ref r0), some (.int x1), some (.int x2), some (.int x3), some (.int x4)] [.int 0] σ Q) ∧ (¬ (¬ (zI σ b3 n4 : Int32) = (zI σ b5 n6)) → WP g C S 130 73 [some (.ref r0), some (.int x1), some (.int x2), some (.int x3), some (.int x4)] [.int 1] σ Q)))))))))) :
    WP g C S 130 24 [some (.ref r0), some (.int x1), some (.int x2), some (.int x3), some (.int x4)] [] σ Q := by
  refine r_g (pc' := 26) (ls' := [some (.ref r0), some (.int x1), some (.int x2), some (.int x3), some (.int x4)]) (st' := [.int x4]) dX7_isSameBase_24 (fun _ => rfl) ?_
  refine r_g (pc' := 27) (ls' := [some (.ref r0), some (.int x1), some (.int x2), some (.int x3), some (.int x4)]) (st' := [.ref r0, .int x4]) dX7_isSameBase_26 (fun _ => rfl) ?_
  obtain ⟨hK, b1, hP, h⟩ := h
  refine r_getP dX7_isSameBase_27 rfl (by decide) rfl hK hP ?_
  refine r_g (pc' := 31) (ls' := [some (.ref r0), some (.int x1), some (.int x2), some (.int x3), some (.int x4)]) (st' := [.int x1, .ref b1, .int x4]) dX7_isSameBase_30 (fun _ => rfl) ?_
  obtain ⟨n2, hj, hn, hK, hL, h⟩ := h
  refine r_iald dX7_isSameBase_31 hj hn hK hL ?_
  obtain ⟨h1, h2⟩ := h
  refine r_icmp (t := 80) dX7_isSameBase_32 (by decide) c_ge (fun c => ?_) (fun c => ?_)
  · have h := h1 c
    exact h
  · have h := h2 c
    refine r_g (pc' := 36) (ls' := [some (.ref r0), some (.int x1), some (.int x2), some (.int x3), some (.int x4)]) (st' := [.int x3]) dX7_isSameBase_35 (fun _ => rfl) ?_
    obtain ⟨h1, h2⟩ := h
    refine r_if (t := 80) dX7_isSameBase_36 (by decide) c_eq (fun c => ?_) (fun c => ?_)
    · have h := h1 c
      exact h
    · have h := h2 c
      refine r_g (pc' := 40) (ls' := [some (.ref r0), some (.int x1), some (.int x2), some (.int x3), some (.int x4)]) (st' := [.ref r0]) dX7_isSameBase_39 (fun _ => rfl) ?_
      obtain ⟨hK, b3, hP, h⟩ := h
      refine r_getP dX7_isSameBase_40 rfl (by decide) rfl hK hP ?_
      refine r_si (v := 400) dX7_isSameBase_43 (by decide) ?_
      refine r_g (pc' := 47) (ls' := [some (.ref r0), some (.int x1), some (.int x2), some (.int x3), some (.int x4)]) (st' := [.int x1, .int 400, .ref b3]) dX7_isSameBase_46 (fun _ => rfl) ?_
      refine r_g (pc' := 48) (ls' := [some (.ref r0), some (.int x1), some (.int x2), some (.int x3), some (.int x4)]) (st' := [.int (400 * x1), .ref b3]) dX7_isSameBase_47 (fun _ => rfl) ?_
      refine r_g (pc' := 50) (ls' := [some (.ref r0), some (.int x1), some (.int x2), some (.int x3), some (.int x4)]) (st' := [.int x4, .int (400 * x1), .ref b3]) dX7_isSameBase_48 (fun _ => rfl) ?_
      refine r_g (pc' := 51) (ls' := [some (.ref r0), some (.int x1), some (.int x2), some (.int x3), some (.int x4)]) (st' := [.int ((400 * x1) + x4), .ref b3]) dX7_isSameBase_50 (fun _ => rfl) ?_
      obtain ⟨n4, hj, hn, hK, hL, h⟩ := h
      refine r_iald dX7_isSameBase_51 hj hn hK hL ?_
      refine r_g (pc' := 53) (ls' := [some (.ref r0), some (.int x1), some (.int x2), some (.int x3), some (.int x4)]) (st' := [.ref r0, .int (zI σ b3 n4)]) dX7_isSameBase_52 (fun _ => rfl) ?_
      obtain ⟨hK, b5, hP, h⟩ := h
      refine r_getP dX7_isSameBase_53 rfl (by decide) rfl hK hP ?_
      refine r_si (v := 400) dX7_isSameBase_56 (by decide) ?_
      refine r_g (pc' := 60) (ls' := [some (.ref r0), some (.int x1), some (.int x2), some (.int x3), some (.int x4)]) (st' := [.int x2, .int 400, .ref b5, .int (zI σ b3 n4)]) dX7_isSameBase_59 (fun _ => rfl) ?_
      refine r_g (pc' := 61) (ls' := [some (.ref r0), some (.int x1), some (.int x2), some (.int x3), some (.int x4)]) (st' := [.int (400 * x2), .ref b5, .int (zI σ b3 n4)]) dX7_isSameBase_60 (fun _ => rfl) ?_
      refine r_g (pc' := 63) (ls' := [some (.ref r0), some (.int x1), some (.int x2), some (.int x3), some (.int x4)]) (st' := [.int x4, .int (400 * x2), .ref b5, .int (zI σ b3 n4)]) dX7_isSameBase_61 (fun _ => rfl) ?_
      refine r_g (pc' := 64) (ls' := [some (.ref r0), some (.int x1), some (.int x2), some (.int x3), some (.int x4)]) (st' := [.int ((400 * x2) + x4), .ref b5, .int (zI σ b3 n4)]) dX7_isSameBase_63 (fun _ => rfl) ?_
      obtain ⟨n6, hj, hn, hK, hL, h⟩ := h
      refine r_iald dX7_isSameBase_64 hj hn hK hL ?_
      obtain ⟨h1, h2⟩ := h
      refine r_icmp (t := 72) dX7_isSameBase_65 (by decide) c_ne (fun c => ?_) (fun c => ?_)
      · have h := h1 c
        refine r_ic (v := 0) dX7_isSameBase_72 (by decide) ?_
        exact h
      · have h := h2 c
        refine r_ic (v := 1) dX7_isSameBase_68 (by decide) ?_
        refine r_goto (t := 73) dX7_isSameBase_69 (by decide) ?_
        exact h
theorem b130_73 {g : Nat → Nat} {C S : Nat} {σ : PS} {Q : Rs → PS → Prop} {r0 : Nat} {x1 : Int32} {x2 : Int32} {l3 : Option Value} {x4 : Int32} {u0 : Int32}
    (h : WP g C S 130 24 [some (.ref r0), some (.int x1), some (.int x2), some (.int u0), some (.int (x4 + 1))] [] σ Q) :
    WP g C S 130 73 [some (.ref r0), some (.int x1), some (.int x2), l3, some (.int x4)] [.int u0] σ Q := by
  refine r_g (pc' := 74) (ls' := [some (.ref r0), some (.int x1), some (.int x2), some (.int u0), some (.int x4)]) (st' := []) dX7_isSameBase_73 (fun _ => rfl) ?_
  refine r_inc (v := 1) (ls' := [some (.ref r0), some (.int x1), some (.int x2), some (.int u0), some (.int (x4 + 1))]) dX7_isSameBase_74 rfl (Nat.le_of_ble_eq_true rfl) (by decide) rfl ?_
  refine r_goto (t := 24) dX7_isSameBase_77 (by decide) ?_
  exact h
theorem b130_80 {g : Nat → Nat} {C S : Nat} {σ : PS} {Q : Rs → PS → Prop} {l0 : Option Value} {l1 : Option Value} {l2 : Option Value} {x3 : Int32} {l4 : Option Value}
    (h : ((x3 : Int32) = 0 ∨ x3 = 1) ∧ Q (Sum.inl (some (.int x3))) σ) :
    WP g C S 130 80 [l0, l1, l2, some (.int x3), l4] [] σ Q := by
  refine r_g (pc' := 81) (ls' := [l0, l1, l2, some (.int x3), l4]) (st' := [.int x3]) dX7_isSameBase_80 (fun _ => rfl) ?_
  obtain ⟨hn, h⟩ := h
  exact r_ret dX7_isSameBase_81 (by rcases hn with q | q <;> rw [q] <;> rfl) h
theorem b131_0 {g : Nat → Nat} {C S : Nat} {σ : PS} {Q : Rs → PS → Prop} {r0 : Nat} {l1 : Option Value} {l2 : Option Value} {l3 : Option Value} {l4 : Option Value}
    (h : WP g C S 131 2 [some (.ref r0), some (.int 0), l2, l3, l4] [] σ Q) :
    WP g C S 131 0 [some (.ref r0), l1, l2, l3, l4] [] σ Q := by
  refine r_ic (v := 0) dX7_setLetters_0 (by decide) ?_
  refine r_g (pc' := 2) (ls' := [some (.ref r0), some (.int 0), l2, l3, l4]) (st' := []) dX7_setLetters_1 (fun _ => rfl) ?_
  exact h
theorem b131_2 {g : Nat → Nat} {C S : Nat} {σ : PS} {Q : Rs → PS → Prop} {r0 : Nat} {x1 : Int32} {l2 : Option Value} {l3 : Option Value} {l4 : Option Value}
    (h : zK σ r0 = 9 ∧ ((zI σ r0 25 : Int32) ≤ x1 → Q (Sum.inl none) σ) ∧ (¬ ((zI σ r0 25 : Int32) ≤ x1) → WP g C S 131 17 [some (.ref r0), some (.int x1), some (.int 0), some (.int 0), some (.int 0)] [] σ Q)) :
    WP g C S 131 2 [some (.ref r0), some (.int x1), l2, l3, l4] [] σ Q := by
  refine r_g (pc' := 3) (ls' := [some (.ref r0), some (.int x1), l2, l3, l4]) (st' := [.int x1]) dX7_setLetters_2 (fun _ => rfl) ?_
  refine r_g (pc' := 4) (ls' := [some (.ref r0), some (.int x1), l2, l3, l4]) (st' := [.ref r0, .int x1]) dX7_setLetters_3 (fun _ => rfl) ?_
  obtain ⟨hK, h⟩ := h
  refine r_getI dX7_setLetters_4 rfl (by decide) rfl hK ?_
  obtain ⟨h1, h2⟩ := h
  refine r_icmp (t := 90) dX7_setLetters_7 (by decide) c_ge (fun c => ?_) (fun c => ?_)
  · have h := h1 c
    exact r_vret dX7_setLetters_90 rfl h
  · have h := h2 c
    refine r_ic (v := 0) dX7_setLetters_10 (by decide) ?_
    refine r_g (pc' := 12) (ls' := [some (.ref r0), some (.int x1), some (.int 0), l3, l4]) (st' := []) dX7_setLetters_11 (fun _ => rfl) ?_
    refine r_ic (v := 0) dX7_setLetters_12 (by decide) ?_
    refine r_g (pc' := 14) (ls' := [some (.ref r0), some (.int x1), some (.int 0), some (.int 0), l4]) (st' := []) dX7_setLetters_13 (fun _ => rfl) ?_
    refine r_ic (v := 0) dX7_setLetters_14 (by decide) ?_
    refine r_g (pc' := 17) (ls' := [some (.ref r0), some (.int x1), some (.int 0), some (.int 0), some (.int 0)]) (st' := []) dX7_setLetters_15 (fun _ => rfl) ?_
    exact h
theorem b131_17 {g : Nat → Nat} {C S : Nat} {σ : PS} {Q : Rs → PS → Prop} {r0 : Nat} {x1 : Int32} {x2 : Int32} {x3 : Int32} {x4 : Int32}
    (h : zK σ r0 = 9 ∧ ((zI σ r0 25 : Int32) ≤ x4 → zK σ r0 = 9 ∧ ∃ b1, zP σ r0 27 = some b1 ∧ (zK σ r0 = 9 ∧ ∃ b2, zP σ r0 28 = some b2 ∧ (∃ n3 : Nat, x1 = nI n3 ∧ n3 < 2147483648 ∧ (zK σ b2 = 101 ∨ zK σ b2 = 1002) ∧ n3 < zL σ b2 ∧ (((zI σ b2 n3 : Int32) ≤ 0 → WP g C S 131 82 [some (.ref r0), some (.int x1), some (.int x2), some (.int x3), some (.int x4)] [.int x1, .ref b1] σ Q) ∧ (¬ ((zI σ b2 n3 : Int32) ≤ 0) → ((x3 : Int32) ≤ 1 → WP g C S 131 82 [some (.ref r0), some (.int x1), some (.int x2), some (.int x3), some (.int x4)] [.int x1, .ref b1] σ Q) ∧ (¬ ((x3 : Int32) ≤ 1) → WP g C S 131 83 [some (.ref r0), some (.int x1), some (.int x2), some (.int x3), some (.int x4)] [.int x2, .int x1, .ref b1] σ Q)))))) ∧ (¬ ((zI σ r0 25 : Int32) ≤ x4) → zK σ r0 = 9 ∧ WP g C S 130 0 [some (.ref r0), some (.int x1), some (.int x4), none, none] [] σ (KK g C S 131 33 [some (.ref r0), some (.int x1), some (.int x2), some (.int x3), some (.int x4)] [] Q false))) :
    WP g C S 131 17 [some (.ref r0), some (.int x1), some (.int x2), some (.int x3), some (.int x4)] [] σ Q := by
  refine r_g (pc' := 19) (ls' := [some (.ref r0), some (.int x1), some (.int x2), some (.int x3), some (.int x4)]) (st' := [.int x4]) dX7_setLetters_17 (fun _ => rfl) ?_
  refine r_g (pc' := 20) (ls' := [some (.ref r0), some (.int x1), some (.int x2), some (.int x3), some (.int x4)]) (st' := [.ref r0, .int x4]) dX7_setLetters_19 (fun _ => rfl) ?_
  obtain ⟨hK, h⟩ := h
  refine r_getI dX7_setLetters_20 rfl (by decide) rfl hK ?_
  obtain ⟨h1, h2⟩ := h
  refine r_icmp (t := 59) dX7_setLetters_23 (by decide) c_ge (fun c => ?_) (fun c => ?_)
  · have h := h1 c
    refine r_g (pc' := 60) (ls' := [some (.ref r0), some (.int x1), some (.int x2), some (.int x3), some (.int x4)]) (st' := [.ref r0]) dX7_setLetters_59 (fun _ => rfl) ?_
    obtain ⟨hK, b1, hP, h⟩ := h
    refine r_getP dX7_setLetters_60 rfl (by decide) rfl hK hP ?_
    refine r_g (pc' := 64) (ls' := [some (.ref r0), some (.int x1), some (.int x2), some (.int x3), some (.int x4)]) (st' := [.int x1, .ref b1]) dX7_setLetters_63 (fun _ => rfl) ?_
    refine r_g (pc' := 65) (ls' := [some (.ref r0), some (.int x1), some (.int x2), some (.int x3), some (.int x4)]) (st' := [.ref r0, .int x1, .ref b1]) dX7_setLetters_64 (fun _ => rfl) ?_
    obtain ⟨hK, b2, hP, h⟩ := h
    refine r_getP dX7_setLetters_65 rfl (by decide) rfl hK hP ?_
    refine r_g (pc' := 69) (ls' := [some (.ref r0), some (.int x1), some (.int x2), some (.int x3), some (.int x4)]) (st' := [.int x1, .ref b2, .int x1, .ref b1]) dX7_setLetters_68 (fun _ => rfl) ?_
    obtain ⟨n3, hj, hn, hK, hL, h⟩ := h
    refine r_iald dX7_setLetters_69 hj hn hK hL ?_
    obtain ⟨h1, h2⟩ := h
    refine r_if (t := 82) dX7_setLetters_70 (by decide) c_le (fun c => ?_) (fun c => ?_)
    · have h := h1 c
      exact h
    · have h := h2 c
      refine r_g (pc' := 74) (ls' := [some (.ref r0), some (.int x1), some (.int x2), some (.int x3), some (.int x4)]) (st' := [.int x3, .int x1, .ref b1]) dX7_setLetters_73 (fun _ => rfl) ?_
      refine r_ic (v := 1) dX7_setLetters_74 (by decide) ?_
      obtain ⟨h1, h2⟩ := h
      refine r_icmp (t := 82) dX7_setLetters_75 (by decide) c_le (fun c => ?_) (fun c => ?_)
      · have h := h1 c
        exact h
      · have h := h2 c
        refine r_g (pc' := 79) (ls' := [some (.ref r0), some (.int x1), some (.int x2), some (.int x3), some (.int x4)]) (st' := [.int x2, .int x1, .ref b1]) dX7_setLetters_78 (fun _ => rfl) ?_
        refine r_goto (t := 83) dX7_setLetters_79 (by decide) ?_
        exact h
  · have h := h2 c
    refine r_g (pc' := 27) (ls' := [some (.ref r0), some (.int x1), some (.int x2), some (.int x3), some (.int x4)]) (st' := [.ref r0]) dX7_setLetters_26 (fun _ => rfl) ?_
    refine r_g (pc' := 28) (ls' := [some (.ref r0), some (.int x1), some (.int x2), some (.int x3), some (.int x4)]) (st' := [.int x1, .ref r0]) dX7_setLetters_27 (fun _ => rfl) ?_
    refine r_g (pc' := 30) (ls' := [some (.ref r0), some (.int x1), some (.int x2), some (.int x3), some (.int x4)]) (st' := [.int x4, .int x1, .ref r0]) dX7_setLetters_28 (fun _ => rfl) ?_
    obtain ⟨hK, h⟩ := h
    exact r_call (th := false) dX7_setLetters_30 (fun _ => ex_calV rfl (by decide)) rfl (Nat.le_of_ble_eq_true rfl) (Nat.le_of_ble_eq_true rfl) (Nat.le_of_ble_eq_true rfl) (rcv0 rfl rfl (by decide) hK) rfl rfl rfl (fun q => nomatch q) h
theorem b131_33 {g : Nat → Nat} {C S : Nat} {σ : PS} {Q : Rs → PS → Prop} {r0 : Nat} {x1 : Int32} {x2 : Int32} {x3 : Int32} {x4 : Int32} {u0 : Int32}
    (h : ((u0 : Int32) = 0 → WP g C S 131 53 [some (.ref r0), some (.int x1), some (.int x2), some (.int x3), some (.int x4)] [] σ Q) ∧ (¬ ((u0 : Int32) = 0) → ((x1 : Int32) < x4 → WP g C S 131 52 [some (.ref r0), some (.int x1), some (.int x2), some (.int (x3 + 1)), some (.int x4)] [.int x2] σ Q) ∧ (¬ ((x1 : Int32) < x4) → WP g C S 131 52 [some (.ref r0), some (.int x1), some (.int x2), some (.int (x3 + 1)), some (.int x4)] [.int (x2 + 1)] σ Q))) :
    WP g C S 131 33 [some (.ref r0), some (.int x1), some (.int x2), some (.int x3), some (.int x4)] [.int u0] σ Q := by
  obtain ⟨h1, h2⟩ := h
  refine r_if (t := 53) dX7_setLetters_33 (by decide) c_eq (fun c => ?_) (fun c => ?_)
  · have h := h1 c
    exact h
  · have h := h2 c
    refine r_inc (v := 1) (ls' := [some (.ref r0), some (.int x1), some (.int x2), some (.int (x3 + 1)), some (.int x4)]) dX7_setLetters_36 rfl (Nat.le_of_ble_eq_true rfl) (by decide) rfl ?_
    refine r_g (pc' := 41) (ls' := [some (.ref r0), some (.int x1), some (.int x2), some (.int (x3 + 1)), some (.int x4)]) (st' := [.int x4]) dX7_setLetters_39 (fun _ => rfl) ?_
    refine r_g (pc' := 42) (ls' := [some (.ref r0), some (.int x1), some (.int x2), some (.int (x3 + 1)), some (.int x4)]) (st' := [.int x1, .int x4]) dX7_setLetters_41 (fun _ => rfl) ?_
    obtain ⟨h1, h2⟩ := h
    refine r_icmp (t := 51) dX7_setLetters_42 (by decide) c_gt (fun c => ?_) (fun c => ?_)
    · have h := h1 c
      refine r_g (pc' := 52) (ls' := [some (.ref r0), some (.int x1), some (.int x2), some (.int (x3 + 1)), some (.int x4)]) (st' := [.int x2]) dX7_setLetters_51 (fun _ => rfl) ?_
      exact h
    · have h := h2 c
      refine r_g (pc' := 46) (ls' := [some (.ref r0), some (.int x1), some (.int x2), some (.int (x3 + 1)), some (.int x4)]) (st' := [.int x2]) dX7_setLetters_45 (fun _ => rfl) ?_
      refine r_ic (v := 1) dX7_setLetters_46 (by decide) ?_
      refine r_g (pc' := 48) (ls' := [some (.ref r0), some (.int x1), some (.int x2), some (.int (x3 + 1)), some (.int x4)]) (st' := [.int (x2 + 1)]) dX7_setLetters_47 (fun _ => rfl) ?_
      refine r_goto (t := 52) dX7_setLetters_48 (by decide) ?_
      exact h
theorem b131_52 {g : Nat → Nat} {C S : Nat} {σ : PS} {Q : Rs → PS → Prop} {r0 : Nat} {x1 : Int32} {l2 : Option Value} {x3 : Int32} {x4 : Int32} {u0 : Int32}
    (h : WP g C S 131 53 [some (.ref r0), some (.int x1), some (.int u0), some (.int x3), some (.int x4)] [] σ Q) :
    WP g C S 131 52 [some (.ref r0), some (.int x1), l2, some (.int x3), some (.int x4)] [.int u0] σ Q := by
  refine r_g (pc' := 53) (ls' := [some (.ref r0), some (.int x1), some (.int u0), some (.int x3), some (.int x4)]) (st' := []) dX7_setLetters_52 (fun _ => rfl) ?_
  exact h
theorem b131_53 {g : Nat → Nat} {C S : Nat} {σ : PS} {Q : Rs → PS → Prop} {r0 : Nat} {x1 : Int32} {x2 : Int32} {x3 : Int32} {x4 : Int32}
    (h : WP g C S 131 17 [some (.ref r0), some (.int x1), some (.int x2), some (.int x3), some (.int (x4 + 1))] [] σ Q) :
    WP g C S 131 53 [some (.ref r0), some (.int x1), some (.int x2), some (.int x3), some (.int x4)] [] σ Q := by
  refine r_inc (v := 1) (ls' := [some (.ref r0), some (.int x1), some (.int x2), some (.int x3), some (.int (x4 + 1))]) dX7_setLetters_53 rfl (Nat.le_of_ble_eq_true rfl) (by decide) rfl ?_
  refine r_goto (t := 17) dX7_setLetters_56 (by decide) ?_
  exact h
theorem b131_82 {g : Nat → Nat} {C S : Nat} {σ : PS} {Q : Rs → PS → Prop} {r0 : Nat} {x1 : Int32} {l2 : Option Value} {l3 : Option Value} {l4 : Option Value} {u0 : Int32} {w1 : Nat}
    (h : WP g C S 131 83 [some (.ref r0), some (.int x1), l2, l3, l4] [.int 0, .int u0, .ref w1] σ Q) :
    WP g C S 131 82 [some (.ref r0), some (.int x1), l2, l3, l4] [.int u0, .ref w1] σ Q := by
  refine r_ic (v := 0) dX7_setLetters_82 (by decide) ?_
  exact h
theorem b131_83 {g : Nat → Nat} {C S : Nat} {σ : PS} {Q : Rs → PS → Prop} {r0 : Nat} {x1 : Int32} {l2 : Option Value} {l3 : Option Value} {l4 : Option Value} {u0 : Int32} {u1 : Int32} {w2 : Nat}
    (h : ∃ n1 : Nat, u1 = nI n1 ∧ n1 < 2147483648 ∧ zK σ w2 = 101 ∧ n1 < zL σ w2 ∧ (∀ τ2, τ2 = stI σ w2 n1 u0 → WP g C S 131 2 [some (.ref r0), some (.int (x1 + 1)), l2, l3, l4] [] τ2 Q)) :
    WP g C S 131 83 [some (.ref r0), some (.int x1), l2, l3, l4] [.int u0, .int u1, .ref w2] σ Q := by
  obtain ⟨n1, hj, hn, hK, hL, h⟩ := h
  refine r_iast dX7_setLetters_83 hj hn hK hL ?_
  generalize eτ2 : stI σ w2 n1 u0 = τ2
  replace h := h _ eτ2.symm
  refine r_inc (v := 1) (ls' := [some (.ref r0), some (.int (x1 + 1)), l2, l3, l4]) dX7_setLetters_84 rfl (Nat.le_of_ble_eq_true rfl) (by decide) rfl ?_
  refine r_goto (t := 2) dX7_setLetters_87 (by decide) ?_
  exact h
theorem b132_0 {g : Nat → Nat} {C S : Nat} {σ : PS} {Q : Rs → PS → Prop} {r0 : Nat}
    (h : zK σ r0 = 9 ∧ zK σ r0 = 9 ∧ ((zI σ r0 21 : Int32) ≤ (zI σ r0 37) → WP g C S 132 19 [some (.ref r0)] [.int 32, .ref r0] σ Q) ∧ (¬ ((zI σ r0 21 : Int32) ≤ (zI σ r0 37)) → WP g C S 132 19 [some (.ref r0)] [.int 46, .ref r0] σ Q)) :
    WP g C S 132 0 [some (.ref r0)] [] σ Q := by
  refine r_g (pc' := 1) (ls' := [some (.ref r0)]) (st' := [.ref r0]) dX7_nextPiece_0 (fun _ => rfl) ?_
  refine r_g (pc' := 2) (ls' := [some (.ref r0)]) (st' := [.ref r0, .ref r0]) dX7_nextPiece_1 (fun _ => rfl) ?_
  obtain ⟨hK, h⟩ := h
  refine r_getI dX7_nextPiece_2 rfl (by decide) rfl hK ?_
  refine r_g (pc' := 6) (ls' := [some (.ref r0)]) (st' := [.ref r0, .int (zI σ r0 21), .ref r0]) dX7_nextPiece_5 (fun _ => rfl) ?_
  obtain ⟨hK, h⟩ := h
  refine r_getI dX7_nextPiece_6 rfl (by decide) rfl hK ?_
  obtain ⟨h1, h2⟩ := h
  refine r_icmp (t := 17) dX7_nextPiece_9 (by decide) c_le (fun c => ?_) (fun c => ?_)
  · have h := h1 c
    refine r_bi (v := 32) dX7_nextPiece_17 (by decide) ?_
    exact h
  · have h := h2 c
    refine r_bi (v := 46) dX7_nextPiece_12 (by decide) ?_
    refine r_goto (t := 19) dX7_nextPiece_14 (by decide) ?_
    exact h
theorem b132_19 {g : Nat → Nat} {C S : Nat} {σ : PS} {Q : Rs → PS → Prop} {r0 : Nat} {u0 : Int32} {w1 : Nat}
    (h : zK σ w1 = 9 ∧ WP g C S 111 0 [some (.ref w1), some (.int u0)] [] σ (KK g C S 132 22 [some (.ref r0)] [] Q false)) :
    WP g C S 132 19 [some (.ref r0)] [.int u0, .ref w1] σ Q := by
  obtain ⟨hK, h⟩ := h
  exact r_call (th := false) dX7_nextPiece_19 (fun _ => ex_calV rfl (by decide)) rfl (Nat.le_of_ble_eq_true rfl) (Nat.le_of_ble_eq_true rfl) (Nat.le_of_ble_eq_true rfl) (rcv0 rfl rfl (by decide) hK) rfl rfl rfl (fun q => nomatch q) h
theorem b132_22 {g : Nat → Nat} {C S : Nat} {σ : PS} {Q : Rs → PS → Prop} {r0 : Nat}
    (h : zK σ r0 = 9 ∧ zK σ r0 = 9 ∧ (((zI σ r0 21) - 1 : Int32) ≤ (zI σ r0 37) → WP g C S 132 41 [some (.ref r0)] [] σ Q) ∧ (¬ (((zI σ r0 21) - 1 : Int32) ≤ (zI σ r0 37)) → zK σ r0 = 9 ∧ WP g C S 111 0 [some (.ref r0), some (.int 32)] [] σ (KK g C S 132 41 [some (.ref r0)] [] Q false))) :
    WP g C S 132 22 [some (.ref r0)] [] σ Q := by
  refine r_g (pc' := 23) (ls' := [some (.ref r0)]) (st' := [.ref r0]) dX7_nextPiece_22 (fun _ => rfl) ?_
  obtain ⟨hK, h⟩ := h
  refine r_getI dX7_nextPiece_23 rfl (by decide) rfl hK ?_
  refine r_ic (v := 1) dX7_nextPiece_26 (by decide) ?_
  refine r_g (pc' := 28) (ls' := [some (.ref r0)]) (st' := [.int ((zI σ r0 21) - 1)]) dX7_nextPiece_27 (fun _ => rfl) ?_
  refine r_g (pc' := 29) (ls' := [some (.ref r0)]) (st' := [.ref r0, .int ((zI σ r0 21) - 1)]) dX7_nextPiece_28 (fun _ => rfl) ?_
  obtain ⟨hK, h⟩ := h
  refine r_getI dX7_nextPiece_29 rfl (by decide) rfl hK ?_
  obtain ⟨h1, h2⟩ := h
  refine r_icmp (t := 41) dX7_nextPiece_32 (by decide) c_le (fun c => ?_) (fun c => ?_)
  · have h := h1 c
    exact h
  · have h := h2 c
    refine r_g (pc' := 36) (ls' := [some (.ref r0)]) (st' := [.ref r0]) dX7_nextPiece_35 (fun _ => rfl) ?_
    refine r_bi (v := 32) dX7_nextPiece_36 (by decide) ?_
    obtain ⟨hK, h⟩ := h
    exact r_call (th := false) dX7_nextPiece_38 (fun _ => ex_calV rfl (by decide)) rfl (Nat.le_of_ble_eq_true rfl) (Nat.le_of_ble_eq_true rfl) (Nat.le_of_ble_eq_true rfl) (rcv0 rfl rfl (by decide) hK) rfl rfl rfl (fun q => nomatch q) h
theorem b132_41 {g : Nat → Nat} {C S : Nat} {σ : PS} {Q : Rs → PS → Prop} {l0 : Option Value}
    (h : Q (Sum.inl none) σ) :
    WP g C S 132 41 [l0] [] σ Q := by
  exact r_vret dX7_nextPiece_41 rfl h
theorem b133_0 {g : Nat → Nat} {C S : Nat} {σ : PS} {Q : Rs → PS → Prop} {r0 : Nat} {x1 : Int32}
    (h : zK σ r0 = 9 ∧ WP g C S 117 0 [some (.ref r0), some (.int 0), some (.int x1)] [] σ (KK g C S 133 6 [some (.ref r0), some (.int x1)] [] Q false)) :
    WP g C S 133 0 [some (.ref r0), some (.int x1)] [] σ Q := by
  refine r_g (pc' := 1) (ls' := [some (.ref r0), some (.int x1)]) (st' := [.ref r0]) dX7_putFull_0 (fun _ => rfl) ?_
  refine r_ic (v := 0) dX7_putFull_1 (by decide) ?_
  refine r_g (pc' := 3) (ls' := [some (.ref r0), some (.int x1)]) (st' := [.int x1, .int 0, .ref r0]) dX7_putFull_2 (fun _ => rfl) ?_
  obtain ⟨hK, h⟩ := h
  exact r_call (th := false) dX7_putFull_3 (fun _ => ex_calV rfl (by decide)) rfl (Nat.le_of_ble_eq_true rfl) (Nat.le_of_ble_eq_true rfl) (Nat.le_of_ble_eq_true rfl) (rcv0 rfl rfl (by decide) hK) rfl rfl rfl (fun q => nomatch q) h
theorem b133_6 {g : Nat → Nat} {C S : Nat} {σ : PS} {Q : Rs → PS → Prop} {r0 : Nat} {x1 : Int32}
    (h : zK σ r0 = 9 ∧ WP g C S 116 0 [some (.ref r0), some (.int 0), some (.int x1), some (.int 0), none, none] [] σ (KK g C S 133 13 [some (.ref r0), some (.int x1)] [] Q false)) :
    WP g C S 133 6 [some (.ref r0), some (.int x1)] [] σ Q := by
  refine r_g (pc' := 7) (ls' := [some (.ref r0), some (.int x1)]) (st' := [.ref r0]) dX7_putFull_6 (fun _ => rfl) ?_
  refine r_ic (v := 0) dX7_putFull_7 (by decide) ?_
  refine r_g (pc' := 9) (ls' := [some (.ref r0), some (.int x1)]) (st' := [.int x1, .int 0, .ref r0]) dX7_putFull_8 (fun _ => rfl) ?_
  refine r_ic (v := 0) dX7_putFull_9 (by decide) ?_
  obtain ⟨hK, h⟩ := h
  exact r_call (th := false) dX7_putFull_10 (fun _ => ex_calV rfl (by decide)) rfl (Nat.le_of_ble_eq_true rfl) (Nat.le_of_ble_eq_true rfl) (Nat.le_of_ble_eq_true rfl) (rcv0 rfl rfl (by decide) hK) rfl rfl rfl (fun q => nomatch q) h
theorem b133_13 {g : Nat → Nat} {C S : Nat} {σ : PS} {Q : Rs → PS → Prop} {r0 : Nat} {x1 : Int32} {u0 : Int32}
    (h : ((u0 : Int32) = 0 → WP g C S 133 34 [some (.ref r0), some (.int x1)] [] σ Q) ∧ (¬ ((u0 : Int32) = 0) → zK σ r0 = 9 ∧ WP g C S 111 0 [some (.ref r0), some (.int 44)] [] σ (KK g C S 133 22 [some (.ref r0), some (.int x1)] [] Q false))) :
    WP g C S 133 13 [some (.ref r0), some (.int x1)] [.int u0] σ Q := by
  obtain ⟨h1, h2⟩ := h
  refine r_if (t := 34) dX7_putFull_13 (by decide) c_eq (fun c => ?_) (fun c => ?_)
  · have h := h1 c
    exact h
  · have h := h2 c
    refine r_g (pc' := 17) (ls' := [some (.ref r0), some (.int x1)]) (st' := [.ref r0]) dX7_putFull_16 (fun _ => rfl) ?_
    refine r_bi (v := 44) dX7_putFull_17 (by decide) ?_
    obtain ⟨hK, h⟩ := h
    exact r_call (th := false) dX7_putFull_19 (fun _ => ex_calV rfl (by decide)) rfl (Nat.le_of_ble_eq_true rfl) (Nat.le_of_ble_eq_true rfl) (Nat.le_of_ble_eq_true rfl) (rcv0 rfl rfl (by decide) hK) rfl rfl rfl (fun q => nomatch q) h
theorem b133_22 {g : Nat → Nat} {C S : Nat} {σ : PS} {Q : Rs → PS → Prop} {r0 : Nat} {x1 : Int32}
    (h : zK σ r0 = 9 ∧ WP g C S 111 0 [some (.ref r0), some (.int 32)] [] σ (KK g C S 133 28 [some (.ref r0), some (.int x1)] [] Q false)) :
    WP g C S 133 22 [some (.ref r0), some (.int x1)] [] σ Q := by
  refine r_g (pc' := 23) (ls' := [some (.ref r0), some (.int x1)]) (st' := [.ref r0]) dX7_putFull_22 (fun _ => rfl) ?_
  refine r_bi (v := 32) dX7_putFull_23 (by decide) ?_
  obtain ⟨hK, h⟩ := h
  exact r_call (th := false) dX7_putFull_25 (fun _ => ex_calV rfl (by decide)) rfl (Nat.le_of_ble_eq_true rfl) (Nat.le_of_ble_eq_true rfl) (Nat.le_of_ble_eq_true rfl) (rcv0 rfl rfl (by decide) hK) rfl rfl rfl (fun q => nomatch q) h
theorem b133_28 {g : Nat → Nat} {C S : Nat} {σ : PS} {Q : Rs → PS → Prop} {r0 : Nat} {x1 : Int32}
    (h : zK σ r0 = 9 ∧ WP g C S 118 0 [some (.ref r0), some (.int 0), some (.int x1), none, none] [] σ (KK g C S 133 34 [some (.ref r0), some (.int x1)] [] Q false)) :
    WP g C S 133 28 [some (.ref r0), some (.int x1)] [] σ Q := by
  refine r_g (pc' := 29) (ls' := [some (.ref r0), some (.int x1)]) (st' := [.ref r0]) dX7_putFull_28 (fun _ => rfl) ?_
  refine r_ic (v := 0) dX7_putFull_29 (by decide) ?_
  refine r_g (pc' := 31) (ls' := [some (.ref r0), some (.int x1)]) (st' := [.int x1, .int 0, .ref r0]) dX7_putFull_30 (fun _ => rfl) ?_
  obtain ⟨hK, h⟩ := h
  exact r_call (th := false) dX7_putFull_31 (fun _ => ex_calV rfl (by decide)) rfl (Nat.le_of_ble_eq_true rfl) (Nat.le_of_ble_eq_true rfl) (Nat.le_of_ble_eq_true rfl) (rcv0 rfl rfl (by decide) hK) rfl rfl rfl (fun q => nomatch q) h
theorem b133_34 {g : Nat → Nat} {C S : Nat} {σ : PS} {Q : Rs → PS → Prop} {l0 : Option Value} {l1 : Option Value}
    (h : Q (Sum.inl none) σ) :
    WP g C S 133 34 [l0, l1] [] σ Q := by
  exact r_vret dX7_putFull_34 rfl h
theorem b134_0 {g : Nat → Nat} {C S : Nat} {σ : PS} {Q : Rs → PS → Prop} {r0 : Nat} {x1 : Int32} {l2 : Option Value} {l3 : Option Value}
    (h : zK σ r0 = 9 ∧ WP g C S 110 0 [some (.ref r0), some (.int 0), some (.int x1), none, none, none, none, none, none, none, none, none, none, none] [] σ (KK g C S 134 6 [some (.ref r0), some (.int x1), l2, l3] [] Q false)) :
    WP g C S 134 0 [some (.ref r0), some (.int x1), l2, l3] [] σ Q := by
  refine r_g (pc' := 1) (ls' := [some (.ref r0), some (.int x1), l2, l3]) (st' := [.ref r0]) dX7_piecePersons_0 (fun _ => rfl) ?_
  refine r_ic (v := 0) dX7_piecePersons_1 (by decide) ?_
  refine r_g (pc' := 3) (ls' := [some (.ref r0), some (.int x1), l2, l3]) (st' := [.int x1, .int 0, .ref r0]) dX7_piecePersons_2 (fun _ => rfl) ?_
  obtain ⟨hK, h⟩ := h
  exact r_call (th := false) dX7_piecePersons_3 (fun _ => ex_calV rfl (by decide)) rfl (Nat.le_of_ble_eq_true rfl) (Nat.le_of_ble_eq_true rfl) (Nat.le_of_ble_eq_true rfl) (rcv0 rfl rfl (by decide) hK) rfl rfl rfl (fun q => nomatch q) h
theorem b134_6 {g : Nat → Nat} {C S : Nat} {σ : PS} {Q : Rs → PS → Prop} {r0 : Nat} {l1 : Option Value} {l2 : Option Value} {l3 : Option Value}
    (h : zK σ r0 = 9 ∧ ∃ b1, zP σ r0 19 = some b1 ∧ (∃ n2 : Nat, 0 = nI n2 ∧ n2 < 2147483648 ∧ (zK σ b1 = 101 ∨ zK σ b1 = 1002) ∧ n2 < zL σ b1 ∧ ((¬ (zI σ b1 n2 : Int32) = 0 → zK σ r0 = 9 ∧ WP g C S 132 0 [some (.ref r0)] [] σ (KK g C S 134 22 [some (.ref r0), (clr l1), some (.int (zI σ b1 n2)), l3] [] Q false)) ∧ (¬ (¬ (zI σ b1 n2 : Int32) = 0) → Q (Sum.inl none) σ)))) :
    WP g C S 134 6 [some (.ref r0), l1, l2, l3] [] σ Q := by
  refine r_g (pc' := 7) (ls' := [some (.ref r0), l1, l2, l3]) (st' := [.ref r0]) dX7_piecePersons_6 (fun _ => rfl) ?_
  obtain ⟨hK, b1, hP, h⟩ := h
  refine r_getP dX7_piecePersons_7 rfl (by decide) rfl hK hP ?_
  refine r_ic (v := 0) dX7_piecePersons_10 (by decide) ?_
  obtain ⟨n2, hj, hn, hK, hL, h⟩ := h
  refine r_iald dX7_piecePersons_11 hj hn hK hL ?_
  refine r_g (pc' := 13) (ls' := [some (.ref r0), (clr l1), some (.int (zI σ b1 n2)), l3]) (st' := []) dX7_piecePersons_12 (fun _ => rfl) ?_
  refine r_g (pc' := 14) (ls' := [some (.ref r0), (clr l1), some (.int (zI σ b1 n2)), l3]) (st' := [.int (zI σ b1 n2)]) dX7_piecePersons_13 (fun _ => rfl) ?_
  obtain ⟨h1, h2⟩ := h
  refine r_if (t := 18) dX7_piecePersons_14 (by decide) c_ne (fun c => ?_) (fun c => ?_)
  · have h := h1 c
    refine r_g (pc' := 19) (ls' := [some (.ref r0), (clr l1), some (.int (zI σ b1 n2)), l3]) (st' := [.ref r0]) dX7_piecePersons_18 (fun _ => rfl) ?_
    obtain ⟨hK, h⟩ := h
    exact r_call (th := false) dX7_piecePersons_19 (fun _ => ex_calV rfl (by decide)) rfl (Nat.le_of_ble_eq_true rfl) (Nat.le_of_ble_eq_true rfl) (Nat.le_of_ble_eq_true rfl) (rcv0 rfl rfl (by decide) hK) rfl rfl rfl (fun q => nomatch q) h
  · have h := h2 c
    exact r_vret dX7_piecePersons_17 rfl h
theorem b134_22 {g : Nat → Nat} {C S : Nat} {σ : PS} {Q : Rs → PS → Prop} {r0 : Nat} {l1 : Option Value} {x2 : Int32} {l3 : Option Value}
    (h : ((x2 : Int32) ≤ 3 → WP g C S 134 42 [some (.ref r0), l1, some (.int x2), some (.int 0)] [] σ Q) ∧ (¬ ((x2 : Int32) ≤ 3) → zK σ r0 = 9 ∧ WP g C S 133 0 [some (.ref r0), some (.int 0)] [] σ (KK g C S 134 32 [some (.ref r0), l1, some (.int x2), l3] [] Q false))) :
    WP g C S 134 22 [some (.ref r0), l1, some (.int x2), l3] [] σ Q := by
  refine r_g (pc' := 23) (ls' := [some (.ref r0), l1, some (.int x2), l3]) (st' := [.int x2]) dX7_piecePersons_22 (fun _ => rfl) ?_
  refine r_ic (v := 3) dX7_piecePersons_23 (by decide) ?_
  obtain ⟨h1, h2⟩ := h
  refine r_icmp (t := 40) dX7_piecePersons_24 (by decide) c_le (fun c => ?_) (fun c => ?_)
  · have h := h1 c
    refine r_ic (v := 0) dX7_piecePersons_40 (by decide) ?_
    refine r_g (pc' := 42) (ls' := [some (.ref r0), l1, some (.int x2), some (.int 0)]) (st' := []) dX7_piecePersons_41 (fun _ => rfl) ?_
    exact h
  · have h := h2 c
    refine r_g (pc' := 28) (ls' := [some (.ref r0), l1, some (.int x2), l3]) (st' := [.ref r0]) dX7_piecePersons_27 (fun _ => rfl) ?_
    refine r_ic (v := 0) dX7_piecePersons_28 (by decide) ?_
    obtain ⟨hK, h⟩ := h
    exact r_call (th := false) dX7_piecePersons_29 (fun _ => ex_calV rfl (by decide)) rfl (Nat.le_of_ble_eq_true rfl) (Nat.le_of_ble_eq_true rfl) (Nat.le_of_ble_eq_true rfl) (rcv0 rfl rfl (by decide) hK) rfl rfl rfl (fun q => nomatch q) h
theorem b134_32 {g : Nat → Nat} {C S : Nat} {σ : PS} {Q : Rs → PS → Prop} {r0 : Nat} {l1 : Option Value} {l2 : Option Value} {l3 : Option Value}
    (h : zK σ r0 = 9 ∧ WP g C S 112 0 [some (.ref r0), some (.long 13067013340816672), none, none, none] [] σ (KK g C S 134 39 [some (.ref r0), l1, l2, l3] [] Q false)) :
    WP g C S 134 32 [some (.ref r0), l1, l2, l3] [] σ Q := by
  refine r_g (pc' := 33) (ls' := [some (.ref r0), l1, l2, l3]) (st' := [.ref r0]) dX7_piecePersons_32 (fun _ => rfl) ?_
  refine r_ldc2 dX7_piecePersons_33 rfl ?_
  obtain ⟨hK, h⟩ := h
  exact r_call (th := false) dX7_piecePersons_36 (fun _ => ex_calV rfl (by decide)) rfl (Nat.le_of_ble_eq_true rfl) (Nat.le_of_ble_eq_true rfl) (Nat.le_of_ble_eq_true rfl) (rcv0 rfl rfl (by decide) hK) rfl rfl rfl (fun q => nomatch q) h
theorem b134_39 {g : Nat → Nat} {C S : Nat} {σ : PS} {Q : Rs → PS → Prop} {l0 : Option Value} {l1 : Option Value} {l2 : Option Value} {l3 : Option Value}
    (h : Q (Sum.inl none) σ) :
    WP g C S 134 39 [l0, l1, l2, l3] [] σ Q := by
  exact r_vret dX7_piecePersons_39 rfl h
theorem b134_42 {g : Nat → Nat} {C S : Nat} {σ : PS} {Q : Rs → PS → Prop} {r0 : Nat} {l1 : Option Value} {x2 : Int32} {x3 : Int32}
    (h : ((x2 : Int32) ≤ x3 → Q (Sum.inl none) σ) ∧ (¬ ((x2 : Int32) ≤ x3) → ((x3 : Int32) ≤ 0 → WP g C S 134 71 [some (.ref r0), l1, some (.int x2), some (.int x3)] [] σ Q) ∧ (¬ ((x3 : Int32) ≤ 0) → (¬ (x3 : Int32) = (x2 - 1) → WP g C S 134 68 [some (.ref r0), l1, some (.int x2), some (.int x3)] [.long 8236, .ref r0] σ Q) ∧ (¬ (¬ (x3 : Int32) = (x2 - 1)) → WP g C S 134 68 [some (.ref r0), l1, some (.int x2), some (.int x3)] [.long 139123908896, .ref r0] σ Q)))) :
    WP g C S 134 42 [some (.ref r0), l1, some (.int x2), some (.int x3)] [] σ Q := by
  refine r_g (pc' := 43) (ls' := [some (.ref r0), l1, some (.int x2), some (.int x3)]) (st' := [.int x3]) dX7_piecePersons_42 (fun _ => rfl) ?_
  refine r_g (pc' := 44) (ls' := [some (.ref r0), l1, some (.int x2), some (.int x3)]) (st' := [.int x2, .int x3]) dX7_piecePersons_43 (fun _ => rfl) ?_
  obtain ⟨h1, h2⟩ := h
  refine r_icmp (t := 82) dX7_piecePersons_44 (by decide) c_ge (fun c => ?_) (fun c => ?_)
  · have h := h1 c
    exact r_vret dX7_piecePersons_82 rfl h
  · have h := h2 c
    refine r_g (pc' := 48) (ls' := [some (.ref r0), l1, some (.int x2), some (.int x3)]) (st' := [.int x3]) dX7_piecePersons_47 (fun _ => rfl) ?_
    obtain ⟨h1, h2⟩ := h
    refine r_if (t := 71) dX7_piecePersons_48 (by decide) c_le (fun c => ?_) (fun c => ?_)
    · have h := h1 c
      exact h
    · have h := h2 c
      refine r_g (pc' := 52) (ls' := [some (.ref r0), l1, some (.int x2), some (.int x3)]) (st' := [.ref r0]) dX7_piecePersons_51 (fun _ => rfl) ?_
      refine r_g (pc' := 53) (ls' := [some (.ref r0), l1, some (.int x2), some (.int x3)]) (st' := [.int x3, .ref r0]) dX7_piecePersons_52 (fun _ => rfl) ?_
      refine r_g (pc' := 54) (ls' := [some (.ref r0), l1, some (.int x2), some (.int x3)]) (st' := [.int x2, .int x3, .ref r0]) dX7_piecePersons_53 (fun _ => rfl) ?_
      refine r_ic (v := 1) dX7_piecePersons_54 (by decide) ?_
      refine r_g (pc' := 56) (ls' := [some (.ref r0), l1, some (.int x2), some (.int x3)]) (st' := [.int (x2 - 1), .int x3, .ref r0]) dX7_piecePersons_55 (fun _ => rfl) ?_
      obtain ⟨h1, h2⟩ := h
      refine r_icmp (t := 65) dX7_piecePersons_56 (by decide) c_ne (fun c => ?_) (fun c => ?_)
      · have h := h1 c
        refine r_ldc2 dX7_piecePersons_65 rfl ?_
        exact h
      · have h := h2 c
        refine r_ldc2 dX7_piecePersons_59 rfl ?_
        refine r_goto (t := 68) dX7_piecePersons_62 (by decide) ?_
        exact h
theorem b134_68 {g : Nat → Nat} {C S : Nat} {σ : PS} {Q : Rs → PS → Prop} {r0 : Nat} {l1 : Option Value} {x2 : Int32} {x3 : Int32} {v0 : Int64} {w1 : Nat}
    (h : zK σ w1 = 9 ∧ WP g C S 112 0 [some (.ref w1), some (.long v0), none, none, none] [] σ (KK g C S 134 71 [some (.ref r0), l1, some (.int x2), some (.int x3)] [] Q false)) :
    WP g C S 134 68 [some (.ref r0), l1, some (.int x2), some (.int x3)] [.long v0, .ref w1] σ Q := by
  obtain ⟨hK, h⟩ := h
  exact r_call (th := false) dX7_piecePersons_68 (fun _ => ex_calV rfl (by decide)) rfl (Nat.le_of_ble_eq_true rfl) (Nat.le_of_ble_eq_true rfl) (Nat.le_of_ble_eq_true rfl) (rcv0 rfl rfl (by decide) hK) rfl rfl rfl (fun q => nomatch q) h
theorem b134_71 {g : Nat → Nat} {C S : Nat} {σ : PS} {Q : Rs → PS → Prop} {r0 : Nat} {l1 : Option Value} {x2 : Int32} {x3 : Int32}
    (h : zK σ r0 = 9 ∧ WP g C S 133 0 [some (.ref r0), some (.int x3)] [] σ (KK g C S 134 76 [some (.ref r0), l1, some (.int x2), some (.int x3)] [] Q false)) :
    WP g C S 134 71 [some (.ref r0), l1, some (.int x2), some (.int x3)] [] σ Q := by
  refine r_g (pc' := 72) (ls' := [some (.ref r0), l1, some (.int x2), some (.int x3)]) (st' := [.ref r0]) dX7_piecePersons_71 (fun _ => rfl) ?_
  refine r_g (pc' := 73) (ls' := [some (.ref r0), l1, some (.int x2), some (.int x3)]) (st' := [.int x3, .ref r0]) dX7_piecePersons_72 (fun _ => rfl) ?_
  obtain ⟨hK, h⟩ := h
  exact r_call (th := false) dX7_piecePersons_73 (fun _ => ex_calV rfl (by decide)) rfl (Nat.le_of_ble_eq_true rfl) (Nat.le_of_ble_eq_true rfl) (Nat.le_of_ble_eq_true rfl) (rcv0 rfl rfl (by decide) hK) rfl rfl rfl (fun q => nomatch q) h
theorem b134_76 {g : Nat → Nat} {C S : Nat} {σ : PS} {Q : Rs → PS → Prop} {r0 : Nat} {l1 : Option Value} {x2 : Int32} {x3 : Int32}
    (h : WP g C S 134 42 [some (.ref r0), l1, some (.int x2), some (.int (x3 + 1))] [] σ Q) :
    WP g C S 134 76 [some (.ref r0), l1, some (.int x2), some (.int x3)] [] σ Q := by
  refine r_inc (v := 1) (ls' := [some (.ref r0), l1, some (.int x2), some (.int (x3 + 1))]) dX7_piecePersons_76 rfl (Nat.le_of_ble_eq_true rfl) (by decide) rfl ?_
  refine r_goto (t := 42) dX7_piecePersons_79 (by decide) ?_
  exact h
theorem b135_0 {g : Nat → Nat} {C S : Nat} {σ : PS} {Q : Rs → PS → Prop} {r0 : Nat} {x1 : Int32}
    (h : ((x1 : Int32) = (-1) → WP g C S 135 14 [some (.ref r0), some (.int x1)] [] σ Q) ∧ (¬ ((x1 : Int32) = (-1)) → zK σ r0 = 9 ∧ WP g C S 132 0 [some (.ref r0)] [] σ (KK g C S 135 9 [some (.ref r0), some (.int x1)] [] Q false))) :
    WP g C S 135 0 [some (.ref r0), some (.int x1)] [] σ Q := by
  refine r_g (pc' := 1) (ls' := [some (.ref r0), some (.int x1)]) (st' := [.int x1]) dX7_pieceField_0 (fun _ => rfl) ?_
  refine r_ic (v := -1) dX7_pieceField_1 (by decide) ?_
  obtain ⟨h1, h2⟩ := h
  refine r_icmp (t := 14) dX7_pieceField_2 (by decide) c_eq (fun c => ?_) (fun c => ?_)
  · have h := h1 c
    exact h
  · have h := h2 c
    refine r_g (pc' := 6) (ls' := [some (.ref r0), some (.int x1)]) (st' := [.ref r0]) dX7_pieceField_5 (fun _ => rfl) ?_
    obtain ⟨hK, h⟩ := h
    exact r_call (th := false) dX7_pieceField_6 (fun _ => ex_calV rfl (by decide)) rfl (Nat.le_of_ble_eq_true rfl) (Nat.le_of_ble_eq_true rfl) (Nat.le_of_ble_eq_true rfl) (rcv0 rfl rfl (by decide) hK) rfl rfl rfl (fun q => nomatch q) h
theorem b135_9 {g : Nat → Nat} {C S : Nat} {σ : PS} {Q : Rs → PS → Prop} {r0 : Nat} {x1 : Int32}
    (h : zK σ r0 = 9 ∧ WP g C S 113 0 [some (.ref r0), some (.int x1), none] [] σ (KK g C S 135 14 [some (.ref r0), some (.int x1)] [] Q false)) :
    WP g C S 135 9 [some (.ref r0), some (.int x1)] [] σ Q := by
  refine r_g (pc' := 10) (ls' := [some (.ref r0), some (.int x1)]) (st' := [.ref r0]) dX7_pieceField_9 (fun _ => rfl) ?_
  refine r_g (pc' := 11) (ls' := [some (.ref r0), some (.int x1)]) (st' := [.int x1, .ref r0]) dX7_pieceField_10 (fun _ => rfl) ?_
  obtain ⟨hK, h⟩ := h
  exact r_call (th := false) dX7_pieceField_11 (fun _ => ex_calV rfl (by decide)) rfl (Nat.le_of_ble_eq_true rfl) (Nat.le_of_ble_eq_true rfl) (Nat.le_of_ble_eq_true rfl) (rcv0 rfl rfl (by decide) hK) rfl rfl rfl (fun q => nomatch q) h
theorem b135_14 {g : Nat → Nat} {C S : Nat} {σ : PS} {Q : Rs → PS → Prop} {l0 : Option Value} {l1 : Option Value}
    (h : Q (Sum.inl none) σ) :
    WP g C S 135 14 [l0, l1] [] σ Q := by
  exact r_vret dX7_pieceField_14 rfl h
theorem b136_0 {g : Nat → Nat} {C S : Nat} {σ : PS} {Q : Rs → PS → Prop} {r0 : Nat} {x1 : Int32} {l2 : Option Value} {l3 : Option Value} {l4 : Option Value}
    (h : zK σ r0 = 9 ∧ ∃ b1, zP σ r0 2 = some b1 ∧ (∃ n2 : Nat, x1 = nI n2 ∧ n2 < 2147483648 ∧ (zK σ b1 = 101 ∨ zK σ b1 = 1002) ∧ n2 < zL σ b1 ∧ (((zI σ b1 n2 : Int32) = 0 → WP g C S 136 37 [some (.ref r0), some (.int x1), some (.int (zI σ b1 n2)), l3, l4] [] σ Q) ∧ (¬ ((zI σ b1 n2 : Int32) = 0) → ((zI σ b1 n2 : Int32) = 2 → WP g C S 136 37 [some (.ref r0), some (.int x1), some (.int (zI σ b1 n2)), l3, l4] [] σ Q) ∧ (¬ ((zI σ b1 n2 : Int32) = 2) → (¬ (zI σ b1 n2 : Int32) = 4 → WP g C S 136 30 [some (.ref r0), some (.int x1), some (.int (zI σ b1 n2)), l3, l4] [.int 4, .int x1, .ref r0, .ref r0] σ Q) ∧ (¬ (¬ (zI σ b1 n2 : Int32) = 4) → WP g C S 136 30 [some (.ref r0), some (.int x1), some (.int (zI σ b1 n2)), l3, l4] [.int 7, .int x1, .ref r0, .ref r0] σ Q)))))) :
    WP g C S 136 0 [some (.ref r0), some (.int x1), l2, l3, l4] [] σ Q := by
  refine r_g (pc' := 1) (ls' := [some (.ref r0), some (.int x1), l2, l3, l4]) (st' := [.ref r0]) dX7_pieceThird_0 (fun _ => rfl) ?_
  obtain ⟨hK, b1, hP, h⟩ := h
  refine r_getP dX7_pieceThird_1 rfl (by decide) rfl hK hP ?_
  refine r_g (pc' := 5) (ls' := [some (.ref r0), some (.int x1), l2, l3, l4]) (st' := [.int x1, .ref b1]) dX7_pieceThird_4 (fun _ => rfl) ?_
  obtain ⟨n2, hj, hn, hK, hL, h⟩ := h
  refine r_iald dX7_pieceThird_5 hj hn hK hL ?_
  refine r_g (pc' := 7) (ls' := [some (.ref r0), some (.int x1), some (.int (zI σ b1 n2)), l3, l4]) (st' := []) dX7_pieceThird_6 (fun _ => rfl) ?_
  refine r_g (pc' := 8) (ls' := [some (.ref r0), some (.int x1), some (.int (zI σ b1 n2)), l3, l4]) (st' := [.int (zI σ b1 n2)]) dX7_pieceThird_7 (fun _ => rfl) ?_
  obtain ⟨h1, h2⟩ := h
  refine r_if (t := 37) dX7_pieceThird_8 (by decide) c_eq (fun c => ?_) (fun c => ?_)
  · have h := h1 c
    exact h
  · have h := h2 c
    refine r_g (pc' := 12) (ls' := [some (.ref r0), some (.int x1), some (.int (zI σ b1 n2)), l3, l4]) (st' := [.int (zI σ b1 n2)]) dX7_pieceThird_11 (fun _ => rfl) ?_
    refine r_ic (v := 2) dX7_pieceThird_12 (by decide) ?_
    obtain ⟨h1, h2⟩ := h
    refine r_icmp (t := 37) dX7_pieceThird_13 (by decide) c_eq (fun c => ?_) (fun c => ?_)
    · have h := h1 c
      exact h
    · have h := h2 c
      refine r_g (pc' := 17) (ls' := [some (.ref r0), some (.int x1), some (.int (zI σ b1 n2)), l3, l4]) (st' := [.ref r0]) dX7_pieceThird_16 (fun _ => rfl) ?_
      refine r_g (pc' := 18) (ls' := [some (.ref r0), some (.int x1), some (.int (zI σ b1 n2)), l3, l4]) (st' := [.ref r0, .ref r0]) dX7_pieceThird_17 (fun _ => rfl) ?_
      refine r_g (pc' := 19) (ls' := [some (.ref r0), some (.int x1), some (.int (zI σ b1 n2)), l3, l4]) (st' := [.int x1, .ref r0, .ref r0]) dX7_pieceThird_18 (fun _ => rfl) ?_
      refine r_g (pc' := 20) (ls' := [some (.ref r0), some (.int x1), some (.int (zI σ b1 n2)), l3, l4]) (st' := [.int (zI σ b1 n2), .int x1, .ref r0, .ref r0]) dX7_pieceThird_19 (fun _ => rfl) ?_
      refine r_ic (v := 4) dX7_pieceThird_20 (by decide) ?_
      obtain ⟨h1, h2⟩ := h
      refine r_icmp (t := 29) dX7_pieceThird_21 (by decide) c_ne (fun c => ?_) (fun c => ?_)
      · have h := h1 c
        refine r_ic (v := 4) dX7_pieceThird_29 (by decide) ?_
        exact h
      · have h := h2 c
        refine r_bi (v := 7) dX7_pieceThird_24 (by decide) ?_
        refine r_goto (t := 30) dX7_pieceThird_26 (by decide) ?_
        exact h
theorem b136_30 {g : Nat → Nat} {C S : Nat} {σ : PS} {Q : Rs → PS → Prop} {l0 : Option Value} {l1 : Option Value} {l2 : Option Value} {l3 : Option Value} {l4 : Option Value} {u0 : Int32} {u1 : Int32} {w2 : Nat} {w3 : Nat}
    (h : zK σ w2 = 9 ∧ WP g C S 103 0 [some (.ref w2), some (.int u1), some (.int u0), none] [] σ (KK g C S 136 33 [l0, l1, l2, l3, l4] [.ref w3] Q false)) :
    WP g C S 136 30 [l0, l1, l2, l3, l4] [.int u0, .int u1, .ref w2, .ref w3] σ Q := by
  obtain ⟨hK, h⟩ := h
  exact r_call (th := false) dX7_pieceThird_30 (fun _ => ex_calV rfl (by decide)) rfl (Nat.le_of_ble_eq_true rfl) (Nat.le_of_ble_eq_true rfl) (Nat.le_of_ble_eq_true rfl) (rcv0 rfl rfl (by decide) hK) rfl rfl rfl (fun q => nomatch q) h
theorem b136_33 {g : Nat → Nat} {C S : Nat} {σ : PS} {Q : Rs → PS → Prop} {l0 : Option Value} {l1 : Option Value} {l2 : Option Value} {l3 : Option Value} {l4 : Option Value} {u0 : Int32} {w1 : Nat}
    (h : zK σ w1 = 9 ∧ WP g C S 135 0 [some (.ref w1), some (.int u0)] [] σ (KK g C S 136 36 [l0, l1, l2, l3, l4] [] Q false)) :
    WP g C S 136 33 [l0, l1, l2, l3, l4] [.int u0, .ref w1] σ Q := by
  obtain ⟨hK, h⟩ := h
  exact r_call (th := false) dX7_pieceThird_33 (fun _ => ex_calV rfl (by decide)) rfl (Nat.le_of_ble_eq_true rfl) (Nat.le_of_ble_eq_true rfl) (Nat.le_of_ble_eq_true rfl) (rcv0 rfl rfl (by decide) hK) rfl rfl rfl (fun q => nomatch q) h
theorem b136_36 {g : Nat → Nat} {C S : Nat} {σ : PS} {Q : Rs → PS → Prop} {l0 : Option Value} {l1 : Option Value} {l2 : Option Value} {l3 : Option Value} {l4 : Option Value}
    (h : Q (Sum.inl none) σ) :
    WP g C S 136 36 [l0, l1, l2, l3, l4] [] σ Q := by
  exact r_vret dX7_pieceThird_36 rfl h
theorem b136_37 {g : Nat → Nat} {C S : Nat} {σ : PS} {Q : Rs → PS → Prop} {r0 : Nat} {x1 : Int32} {x2 : Int32} {l3 : Option Value} {l4 : Option Value}
    (h : (¬ (x2 : Int32) = 0 → WP g C S 136 49 [some (.ref r0), some (.int x1), some (.int x2), l3, l4] [.int 6, .int x1, .ref r0] σ Q) ∧ (¬ (¬ (x2 : Int32) = 0) → WP g C S 136 49 [some (.ref r0), some (.int x1), some (.int x2), l3, l4] [.int 3, .int x1, .ref r0] σ Q)) :
    WP g C S 136 37 [some (.ref r0), some (.int x1), some (.int x2), l3, l4] [] σ Q := by
  refine r_g (pc' := 38) (ls' := [some (.ref r0), some (.int x1), some (.int x2), l3, l4]) (st' := [.ref r0]) dX7_pieceThird_37 (fun _ => rfl) ?_
  refine r_g (pc' := 39) (ls' := [some (.ref r0), some (.int x1), some (.int x2), l3, l4]) (st' := [.int x1, .ref r0]) dX7_pieceThird_38 (fun _ => rfl) ?_
  refine r_g (pc' := 40) (ls' := [some (.ref r0), some (.int x1), some (.int x2), l3, l4]) (st' := [.int x2, .int x1, .ref r0]) dX7_pieceThird_39 (fun _ => rfl) ?_
  obtain ⟨h1, h2⟩ := h
  refine r_if (t := 47) dX7_pieceThird_40 (by decide) c_ne (fun c => ?_) (fun c => ?_)
  · have h := h1 c
    refine r_bi (v := 6) dX7_pieceThird_47 (by decide) ?_
    exact h
  · have h := h2 c
    refine r_ic (v := 3) dX7_pieceThird_43 (by decide) ?_
    refine r_goto (t := 49) dX7_pieceThird_44 (by decide) ?_
    exact h
theorem b136_49 {g : Nat → Nat} {C S : Nat} {σ : PS} {Q : Rs → PS → Prop} {r0 : Nat} {x1 : Int32} {x2 : Int32} {l3 : Option Value} {l4 : Option Value} {u0 : Int32} {u1 : Int32} {w2 : Nat}
    (h : zK σ w2 = 9 ∧ WP g C S 103 0 [some (.ref w2), some (.int u1), some (.int u0), none] [] σ (KK g C S 136 52 [some (.ref r0), some (.int x1), some (.int x2), l3, l4] [] Q false)) :
    WP g C S 136 49 [some (.ref r0), some (.int x1), some (.int x2), l3, l4] [.int u0, .int u1, .ref w2] σ Q := by
  obtain ⟨hK, h⟩ := h
  exact r_call (th := false) dX7_pieceThird_49 (fun _ => ex_calV rfl (by decide)) rfl (Nat.le_of_ble_eq_true rfl) (Nat.le_of_ble_eq_true rfl) (Nat.le_of_ble_eq_true rfl) (rcv0 rfl rfl (by decide) hK) rfl rfl rfl (fun q => nomatch q) h
theorem b136_52 {g : Nat → Nat} {C S : Nat} {σ : PS} {Q : Rs → PS → Prop} {r0 : Nat} {x1 : Int32} {x2 : Int32} {l3 : Option Value} {l4 : Option Value} {u0 : Int32}
    (h : (¬ (u0 : Int32) = (-1) → zK σ r0 = 9 ∧ WP g C S 132 0 [some (.ref r0)] [] σ (KK g C S 136 63 [some (.ref r0), some (.int x1), some (.int x2), some (.int u0), l4] [] Q false)) ∧ (¬ (¬ (u0 : Int32) = (-1)) → Q (Sum.inl none) σ)) :
    WP g C S 136 52 [some (.ref r0), some (.int x1), some (.int x2), l3, l4] [.int u0] σ Q := by
  refine r_g (pc' := 53) (ls' := [some (.ref r0), some (.int x1), some (.int x2), some (.int u0), l4]) (st' := []) dX7_pieceThird_52 (fun _ => rfl) ?_
  refine r_g (pc' := 54) (ls' := [some (.ref r0), some (.int x1), some (.int x2), some (.int u0), l4]) (st' := [.int u0]) dX7_pieceThird_53 (fun _ => rfl) ?_
  refine r_ic (v := -1) dX7_pieceThird_54 (by decide) ?_
  obtain ⟨h1, h2⟩ := h
  refine r_icmp (t := 59) dX7_pieceThird_55 (by decide) c_ne (fun c => ?_) (fun c => ?_)
  · have h := h1 c
    refine r_g (pc' := 60) (ls' := [some (.ref r0), some (.int x1), some (.int x2), some (.int u0), l4]) (st' := [.ref r0]) dX7_pieceThird_59 (fun _ => rfl) ?_
    obtain ⟨hK, h⟩ := h
    exact r_call (th := false) dX7_pieceThird_60 (fun _ => ex_calV rfl (by decide)) rfl (Nat.le_of_ble_eq_true rfl) (Nat.le_of_ble_eq_true rfl) (Nat.le_of_ble_eq_true rfl) (rcv0 rfl rfl (by decide) hK) rfl rfl rfl (fun q => nomatch q) h
  · have h := h2 c
    exact r_vret dX7_pieceThird_58 rfl h
theorem b136_63 {g : Nat → Nat} {C S : Nat} {σ : PS} {Q : Rs → PS → Prop} {r0 : Nat} {x1 : Int32} {x2 : Int32} {x3 : Int32} {l4 : Option Value}
    (h : (¬ (x2 : Int32) = 2 → WP g C S 136 75 [some (.ref r0), some (.int x1), some (.int x2), some (.int x3), l4] [] σ Q) ∧ (¬ (¬ (x2 : Int32) = 2) → zK σ r0 = 9 ∧ WP g C S 112 0 [some (.ref r0), some (.long 540700233), none, none, none] [] σ (KK g C S 136 75 [some (.ref r0), some (.int x1), some (.int x2), some (.int x3), l4] [] Q false))) :
    WP g C S 136 63 [some (.ref r0), some (.int x1), some (.int x2), some (.int x3), l4] [] σ Q := by
  refine r_g (pc' := 64) (ls' := [some (.ref r0), some (.int x1), some (.int x2), some (.int x3), l4]) (st' := [.int x2]) dX7_pieceThird_63 (fun _ => rfl) ?_
  refine r_ic (v := 2) dX7_pieceThird_64 (by decide) ?_
  obtain ⟨h1, h2⟩ := h
  refine r_icmp (t := 75) dX7_pieceThird_65 (by decide) c_ne (fun c => ?_) (fun c => ?_)
  · have h := h1 c
    exact h
  · have h := h2 c
    refine r_g (pc' := 69) (ls' := [some (.ref r0), some (.int x1), some (.int x2), some (.int x3), l4]) (st' := [.ref r0]) dX7_pieceThird_68 (fun _ => rfl) ?_
    refine r_ldc2 dX7_pieceThird_69 rfl ?_
    obtain ⟨hK, h⟩ := h
    exact r_call (th := false) dX7_pieceThird_72 (fun _ => ex_calV rfl (by decide)) rfl (Nat.le_of_ble_eq_true rfl) (Nat.le_of_ble_eq_true rfl) (Nat.le_of_ble_eq_true rfl) (rcv0 rfl rfl (by decide) hK) rfl rfl rfl (fun q => nomatch q) h
theorem b136_75 {g : Nat → Nat} {C S : Nat} {σ : PS} {Q : Rs → PS → Prop} {r0 : Nat} {x1 : Int32} {x2 : Int32} {x3 : Int32} {l4 : Option Value}
    (h : zK σ r0 = 9 ∧ WP g C S 113 0 [some (.ref r0), some (.int x3), none] [] σ (KK g C S 136 80 [some (.ref r0), some (.int x1), some (.int x2), some (.int x3), l4] [] Q false)) :
    WP g C S 136 75 [some (.ref r0), some (.int x1), some (.int x2), some (.int x3), l4] [] σ Q := by
  refine r_g (pc' := 76) (ls' := [some (.ref r0), some (.int x1), some (.int x2), some (.int x3), l4]) (st' := [.ref r0]) dX7_pieceThird_75 (fun _ => rfl) ?_
  refine r_g (pc' := 77) (ls' := [some (.ref r0), some (.int x1), some (.int x2), some (.int x3), l4]) (st' := [.int x3, .ref r0]) dX7_pieceThird_76 (fun _ => rfl) ?_
  obtain ⟨hK, h⟩ := h
  exact r_call (th := false) dX7_pieceThird_77 (fun _ => ex_calV rfl (by decide)) rfl (Nat.le_of_ble_eq_true rfl) (Nat.le_of_ble_eq_true rfl) (Nat.le_of_ble_eq_true rfl) (rcv0 rfl rfl (by decide) hK) rfl rfl rfl (fun q => nomatch q) h
theorem b136_80 {g : Nat → Nat} {C S : Nat} {σ : PS} {Q : Rs → PS → Prop} {r0 : Nat} {x1 : Int32} {x2 : Int32} {l3 : Option Value} {l4 : Option Value}
    (h : zK σ r0 = 9 ∧ WP g C S 103 0 [some (.ref r0), some (.int x1), some (.int 5), none] [] σ (KK g C S 136 86 [some (.ref r0), some (.int x1), some (.int x2), l3, l4] [] Q false)) :
    WP g C S 136 80 [some (.ref r0), some (.int x1), some (.int x2), l3, l4] [] σ Q := by
  refine r_g (pc' := 81) (ls' := [some (.ref r0), some (.int x1), some (.int x2), l3, l4]) (st' := [.ref r0]) dX7_pieceThird_80 (fun _ => rfl) ?_
  refine r_g (pc' := 82) (ls' := [some (.ref r0), some (.int x1), some (.int x2), l3, l4]) (st' := [.int x1, .ref r0]) dX7_pieceThird_81 (fun _ => rfl) ?_
  refine r_ic (v := 5) dX7_pieceThird_82 (by decide) ?_
  obtain ⟨hK, h⟩ := h
  exact r_call (th := false) dX7_pieceThird_83 (fun _ => ex_calV rfl (by decide)) rfl (Nat.le_of_ble_eq_true rfl) (Nat.le_of_ble_eq_true rfl) (Nat.le_of_ble_eq_true rfl) (rcv0 rfl rfl (by decide) hK) rfl rfl rfl (fun q => nomatch q) h
theorem b136_86 {g : Nat → Nat} {C S : Nat} {σ : PS} {Q : Rs → PS → Prop} {r0 : Nat} {l1 : Option Value} {x2 : Int32} {l3 : Option Value} {l4 : Option Value} {u0 : Int32}
    (h : ((u0 : Int32) = (-1) → WP g C S 136 117 [some (.ref r0), l1, some (.int x2), (clr l3), some (.int u0)] [] σ Q) ∧ (¬ ((u0 : Int32) = (-1)) → (¬ (x2 : Int32) = 0 → WP g C S 136 108 [some (.ref r0), l1, some (.int x2), (clr l3), some (.int u0)] [.long 35383826980908, .ref r0] σ Q) ∧ (¬ (¬ (x2 : Int32) = 0) → WP g C S 136 108 [some (.ref r0), l1, some (.int x2), (clr l3), some (.int u0)] [.long 8236, .ref r0] σ Q))) :
    WP g C S 136 86 [some (.ref r0), l1, some (.int x2), l3, l4] [.int u0] σ Q := by
  refine r_g (pc' := 88) (ls' := [some (.ref r0), l1, some (.int x2), (clr l3), some (.int u0)]) (st' := []) dX7_pieceThird_86 (fun _ => rfl) ?_
  refine r_g (pc' := 90) (ls' := [some (.ref r0), l1, some (.int x2), (clr l3), some (.int u0)]) (st' := [.int u0]) dX7_pieceThird_88 (fun _ => rfl) ?_
  refine r_ic (v := -1) dX7_pieceThird_90 (by decide) ?_
  obtain ⟨h1, h2⟩ := h
  refine r_icmp (t := 117) dX7_pieceThird_91 (by decide) c_eq (fun c => ?_) (fun c => ?_)
  · have h := h1 c
    exact h
  · have h := h2 c
    refine r_g (pc' := 95) (ls' := [some (.ref r0), l1, some (.int x2), (clr l3), some (.int u0)]) (st' := [.ref r0]) dX7_pieceThird_94 (fun _ => rfl) ?_
    refine r_g (pc' := 96) (ls' := [some (.ref r0), l1, some (.int x2), (clr l3), some (.int u0)]) (st' := [.int x2, .ref r0]) dX7_pieceThird_95 (fun _ => rfl) ?_
    obtain ⟨h1, h2⟩ := h
    refine r_if (t := 105) dX7_pieceThird_96 (by decide) c_ne (fun c => ?_) (fun c => ?_)
    · have h := h1 c
      refine r_ldc2 dX7_pieceThird_105 rfl ?_
      exact h
    · have h := h2 c
      refine r_ldc2 dX7_pieceThird_99 rfl ?_
      refine r_goto (t := 108) dX7_pieceThird_102 (by decide) ?_
      exact h
theorem b136_108 {g : Nat → Nat} {C S : Nat} {σ : PS} {Q : Rs → PS → Prop} {r0 : Nat} {l1 : Option Value} {l2 : Option Value} {l3 : Option Value} {x4 : Int32} {v0 : Int64} {w1 : Nat}
    (h : zK σ w1 = 9 ∧ WP g C S 112 0 [some (.ref w1), some (.long v0), none, none, none] [] σ (KK g C S 136 111 [some (.ref r0), l1, l2, l3, some (.int x4)] [] Q false)) :
    WP g C S 136 108 [some (.ref r0), l1, l2, l3, some (.int x4)] [.long v0, .ref w1] σ Q := by
  obtain ⟨hK, h⟩ := h
  exact r_call (th := false) dX7_pieceThird_108 (fun _ => ex_calV rfl (by decide)) rfl (Nat.le_of_ble_eq_true rfl) (Nat.le_of_ble_eq_true rfl) (Nat.le_of_ble_eq_true rfl) (rcv0 rfl rfl (by decide) hK) rfl rfl rfl (fun q => nomatch q) h
theorem b136_111 {g : Nat → Nat} {C S : Nat} {σ : PS} {Q : Rs → PS → Prop} {r0 : Nat} {l1 : Option Value} {l2 : Option Value} {l3 : Option Value} {x4 : Int32}
    (h : zK σ r0 = 9 ∧ WP g C S 113 0 [some (.ref r0), some (.int x4), none] [] σ (KK g C S 136 117 [some (.ref r0), l1, l2, l3, some (.int x4)] [] Q false)) :
    WP g C S 136 111 [some (.ref r0), l1, l2, l3, some (.int x4)] [] σ Q := by
  refine r_g (pc' := 112) (ls' := [some (.ref r0), l1, l2, l3, some (.int x4)]) (st' := [.ref r0]) dX7_pieceThird_111 (fun _ => rfl) ?_
  refine r_g (pc' := 114) (ls' := [some (.ref r0), l1, l2, l3, some (.int x4)]) (st' := [.int x4, .ref r0]) dX7_pieceThird_112 (fun _ => rfl) ?_
  obtain ⟨hK, h⟩ := h
  exact r_call (th := false) dX7_pieceThird_114 (fun _ => ex_calV rfl (by decide)) rfl (Nat.le_of_ble_eq_true rfl) (Nat.le_of_ble_eq_true rfl) (Nat.le_of_ble_eq_true rfl) (rcv0 rfl rfl (by decide) hK) rfl rfl rfl (fun q => nomatch q) h
theorem b136_117 {g : Nat → Nat} {C S : Nat} {σ : PS} {Q : Rs → PS → Prop} {l0 : Option Value} {l1 : Option Value} {l2 : Option Value} {l3 : Option Value} {l4 : Option Value}
    (h : Q (Sum.inl none) σ) :
    WP g C S 136 117 [l0, l1, l2, l3, l4] [] σ Q := by
  exact r_vret dX7_pieceThird_117 rfl h
theorem b137_0 {g : Nat → Nat} {C S : Nat} {σ : PS} {Q : Rs → PS → Prop} {r0 : Nat} {x1 : Int32}
    (h : ((x1 : Int32) ≤ 9 → WP g C S 137 17 [some (.ref r0), some (.int x1)] [] σ Q) ∧ (¬ ((x1 : Int32) ≤ 9) → (¬ (10 : Int32) = 0) ∧ zK σ r0 = 9 ∧ WP g C S 111 0 [some (.ref r0), some (.int (48 + (x1 / 10)))] [] σ (KK g C S 137 17 [some (.ref r0), some (.int x1)] [] Q false))) :
    WP g C S 137 0 [some (.ref r0), some (.int x1)] [] σ Q := by
  refine r_g (pc' := 1) (ls' := [some (.ref r0), some (.int x1)]) (st' := [.int x1]) dX7_putNumber_0 (fun _ => rfl) ?_
  refine r_bi (v := 9) dX7_putNumber_1 (by decide) ?_
  obtain ⟨h1, h2⟩ := h
  refine r_icmp (t := 17) dX7_putNumber_3 (by decide) c_le (fun c => ?_) (fun c => ?_)
  · have h := h1 c
    exact h
  · have h := h2 c
    refine r_g (pc' := 7) (ls' := [some (.ref r0), some (.int x1)]) (st' := [.ref r0]) dX7_putNumber_6 (fun _ => rfl) ?_
    refine r_bi (v := 48) dX7_putNumber_7 (by decide) ?_
    refine r_g (pc' := 10) (ls' := [some (.ref r0), some (.int x1)]) (st' := [.int x1, .int 48, .ref r0]) dX7_putNumber_9 (fun _ => rfl) ?_
    refine r_bi (v := 10) dX7_putNumber_10 (by decide) ?_
    obtain ⟨h0, h⟩ := h
    refine r_div dX7_putNumber_12 h0 ?_
    refine r_g (pc' := 14) (ls' := [some (.ref r0), some (.int x1)]) (st' := [.int (48 + (x1 / 10)), .ref r0]) dX7_putNumber_13 (fun _ => rfl) ?_
    obtain ⟨hK, h⟩ := h
    exact r_call (th := false) dX7_putNumber_14 (fun _ => ex_calV rfl (by decide)) rfl (Nat.le_of_ble_eq_true rfl) (Nat.le_of_ble_eq_true rfl) (Nat.le_of_ble_eq_true rfl) (rcv0 rfl rfl (by decide) hK) rfl rfl rfl (fun q => nomatch q) h
theorem b137_17 {g : Nat → Nat} {C S : Nat} {σ : PS} {Q : Rs → PS → Prop} {r0 : Nat} {x1 : Int32}
    (h : (¬ (10 : Int32) = 0) ∧ zK σ r0 = 9 ∧ WP g C S 111 0 [some (.ref r0), some (.int (48 + (x1 - x1 / 10 * 10)))] [] σ (KK g C S 137 28 [some (.ref r0), some (.int x1)] [] Q false)) :
    WP g C S 137 17 [some (.ref r0), some (.int x1)] [] σ Q := by
  refine r_g (pc' := 18) (ls' := [some (.ref r0), some (.int x1)]) (st' := [.ref r0]) dX7_putNumber_17 (fun _ => rfl) ?_
  refine r_bi (v := 48) dX7_putNumber_18 (by decide) ?_
  refine r_g (pc' := 21) (ls' := [some (.ref r0), some (.int x1)]) (st' := [.int x1, .int 48, .ref r0]) dX7_putNumber_20 (fun _ => rfl) ?_
  refine r_bi (v := 10) dX7_putNumber_21 (by decide) ?_
  obtain ⟨h0, h⟩ := h
  refine r_rem dX7_putNumber_23 h0 ?_
  refine r_g (pc' := 25) (ls' := [some (.ref r0), some (.int x1)]) (st' := [.int (48 + (x1 - x1 / 10 * 10)), .ref r0]) dX7_putNumber_24 (fun _ => rfl) ?_
  obtain ⟨hK, h⟩ := h
  exact r_call (th := false) dX7_putNumber_25 (fun _ => ex_calV rfl (by decide)) rfl (Nat.le_of_ble_eq_true rfl) (Nat.le_of_ble_eq_true rfl) (Nat.le_of_ble_eq_true rfl) (rcv0 rfl rfl (by decide) hK) rfl rfl rfl (fun q => nomatch q) h
theorem b137_28 {g : Nat → Nat} {C S : Nat} {σ : PS} {Q : Rs → PS → Prop} {l0 : Option Value} {l1 : Option Value}
    (h : Q (Sum.inl none) σ) :
    WP g C S 137 28 [l0, l1] [] σ Q := by
  exact r_vret dX7_putNumber_28 rfl h
theorem b138_0 {g : Nat → Nat} {C S : Nat} {σ : PS} {Q : Rs → PS → Prop} {r0 : Nat} {x1 : Int32} {l2 : Option Value} {l3 : Option Value}
    (h : zK σ r0 = 9 ∧ ∃ b1, zP σ r0 26 = some b1 ∧ (∃ n2 : Nat, x1 = nI n2 ∧ n2 < 2147483648 ∧ (zK σ b1 = 101 ∨ zK σ b1 = 1002) ∧ n2 < zL σ b1 ∧ (zK σ r0 = 9 ∧ (∀ τ3, τ3 = stI σ r0 21 0 → zK τ3 r0 = 9 ∧ (¬ (zI τ3 r0 12 : Int32) = 2 → WP g C S 138 28 [some (.ref r0), some (.int x1), some (.int (zI σ b1 n2)), l3] [.int 91, .ref r0] τ3 Q) ∧ (¬ (¬ (zI τ3 r0 12 : Int32) = 2) → WP g C S 138 28 [some (.ref r0), some (.int x1), some (.int (zI σ b1 n2)), l3] [.int 40, .ref r0] τ3 Q))))) :
    WP g C S 138 0 [some (.ref r0), some (.int x1), l2, l3] [] σ Q := by
  refine r_g (pc' := 1) (ls' := [some (.ref r0), some (.int x1), l2, l3]) (st' := [.ref r0]) dX7_makeText_0 (fun _ => rfl) ?_
  obtain ⟨hK, b1, hP, h⟩ := h
  refine r_getP dX7_makeText_1 rfl (by decide) rfl hK hP ?_
  refine r_g (pc' := 5) (ls' := [some (.ref r0), some (.int x1), l2, l3]) (st' := [.int x1, .ref b1]) dX7_makeText_4 (fun _ => rfl) ?_
  obtain ⟨n2, hj, hn, hK, hL, h⟩ := h
  refine r_iald dX7_makeText_5 hj hn hK hL ?_
  refine r_g (pc' := 7) (ls' := [some (.ref r0), some (.int x1), some (.int (zI σ b1 n2)), l3]) (st' := []) dX7_makeText_6 (fun _ => rfl) ?_
  refine r_g (pc' := 8) (ls' := [some (.ref r0), some (.int x1), some (.int (zI σ b1 n2)), l3]) (st' := [.ref r0]) dX7_makeText_7 (fun _ => rfl) ?_
  refine r_ic (v := 0) dX7_makeText_8 (by decide) ?_
  obtain ⟨hK, h⟩ := h
  refine r_putI dX7_makeText_9 rfl (by decide) (Or.inl rfl) rfl (Or.inl rfl) hK ?_
  generalize eτ3 : stI σ r0 21 0 = τ3
  replace h := h _ eτ3.symm
  refine r_g (pc' := 13) (ls' := [some (.ref r0), some (.int x1), some (.int (zI σ b1 n2)), l3]) (st' := [.ref r0]) dX7_makeText_12 (fun _ => rfl) ?_
  refine r_g (pc' := 14) (ls' := [some (.ref r0), some (.int x1), some (.int (zI σ b1 n2)), l3]) (st' := [.ref r0, .ref r0]) dX7_makeText_13 (fun _ => rfl) ?_
  obtain ⟨hK, h⟩ := h
  refine r_getI dX7_makeText_14 rfl (by decide) rfl hK ?_
  refine r_ic (v := 2) dX7_makeText_17 (by decide) ?_
  obtain ⟨h1, h2⟩ := h
  refine r_icmp (t := 26) dX7_makeText_18 (by decide) c_ne (fun c => ?_) (fun c => ?_)
  · have h := h1 c
    refine r_bi (v := 91) dX7_makeText_26 (by decide) ?_
    exact h
  · have h := h2 c
    refine r_bi (v := 40) dX7_makeText_21 (by decide) ?_
    refine r_goto (t := 28) dX7_makeText_23 (by decide) ?_
    exact h
theorem b138_28 {g : Nat → Nat} {C S : Nat} {σ : PS} {Q : Rs → PS → Prop} {r0 : Nat} {x1 : Int32} {x2 : Int32} {l3 : Option Value} {u0 : Int32} {w1 : Nat}
    (h : zK σ w1 = 9 ∧ WP g C S 111 0 [some (.ref w1), some (.int u0)] [] σ (KK g C S 138 31 [some (.ref r0), some (.int x1), some (.int x2), l3] [] Q false)) :
    WP g C S 138 28 [some (.ref r0), some (.int x1), some (.int x2), l3] [.int u0, .ref w1] σ Q := by
  obtain ⟨hK, h⟩ := h
  exact r_call (th := false) dX7_makeText_28 (fun _ => ex_calV rfl (by decide)) rfl (Nat.le_of_ble_eq_true rfl) (Nat.le_of_ble_eq_true rfl) (Nat.le_of_ble_eq_true rfl) (rcv0 rfl rfl (by decide) hK) rfl rfl rfl (fun q => nomatch q) h
theorem b138_31 {g : Nat → Nat} {C S : Nat} {σ : PS} {Q : Rs → PS → Prop} {r0 : Nat} {x1 : Int32} {x2 : Int32} {l3 : Option Value}
    (h : zK σ r0 = 9 ∧ (¬ (zI σ r0 12 : Int32) = 0 → WP g C S 138 45 [some (.ref r0), some (.int x1), some (.int x2), l3] [] σ Q) ∧ (¬ (¬ (zI σ r0 12 : Int32) = 0) → zK σ r0 = 9 ∧ WP g C S 137 0 [some (.ref r0), some (.int (x1 + 1))] [] σ (KK g C S 138 45 [some (.ref r0), some (.int x1), some (.int x2), l3] [] Q false))) :
    WP g C S 138 31 [some (.ref r0), some (.int x1), some (.int x2), l3] [] σ Q := by
  refine r_g (pc' := 32) (ls' := [some (.ref r0), some (.int x1), some (.int x2), l3]) (st' := [.ref r0]) dX7_makeText_31 (fun _ => rfl) ?_
  obtain ⟨hK, h⟩ := h
  refine r_getI dX7_makeText_32 rfl (by decide) rfl hK ?_
  obtain ⟨h1, h2⟩ := h
  refine r_if (t := 45) dX7_makeText_35 (by decide) c_ne (fun c => ?_) (fun c => ?_)
  · have h := h1 c
    exact h
  · have h := h2 c
    refine r_g (pc' := 39) (ls' := [some (.ref r0), some (.int x1), some (.int x2), l3]) (st' := [.ref r0]) dX7_makeText_38 (fun _ => rfl) ?_
    refine r_g (pc' := 40) (ls' := [some (.ref r0), some (.int x1), some (.int x2), l3]) (st' := [.int x1, .ref r0]) dX7_makeText_39 (fun _ => rfl) ?_
    refine r_ic (v := 1) dX7_makeText_40 (by decide) ?_
    refine r_g (pc' := 42) (ls' := [some (.ref r0), some (.int x1), some (.int x2), l3]) (st' := [.int (x1 + 1), .ref r0]) dX7_makeText_41 (fun _ => rfl) ?_
    obtain ⟨hK, h⟩ := h
    exact r_call (th := false) dX7_makeText_42 (fun _ => ex_calV rfl (by decide)) rfl (Nat.le_of_ble_eq_true rfl) (Nat.le_of_ble_eq_true rfl) (Nat.le_of_ble_eq_true rfl) (rcv0 rfl rfl (by decide) hK) rfl rfl rfl (fun q => nomatch q) h
theorem b138_45 {g : Nat → Nat} {C S : Nat} {σ : PS} {Q : Rs → PS → Prop} {r0 : Nat} {x1 : Int32} {x2 : Int32} {l3 : Option Value}
    (h : WP g C S 138 47 [some (.ref r0), some (.int x1), some (.int x2), some (.int 0)] [] σ Q) :
    WP g C S 138 45 [some (.ref r0), some (.int x1), some (.int x2), l3] [] σ Q := by
  refine r_ic (v := 0) dX7_makeText_45 (by decide) ?_
  refine r_g (pc' := 47) (ls' := [some (.ref r0), some (.int x1), some (.int x2), some (.int 0)]) (st' := []) dX7_makeText_46 (fun _ => rfl) ?_
  exact h
theorem b138_47 {g : Nat → Nat} {C S : Nat} {σ : PS} {Q : Rs → PS → Prop} {r0 : Nat} {x1 : Int32} {x2 : Int32} {x3 : Int32}
    (h : zK σ r0 = 9 ∧ ∃ b1, zP σ r0 28 = some b1 ∧ (∃ n2 : Nat, x1 = nI n2 ∧ n2 < 2147483648 ∧ (zK σ b1 = 101 ∨ zK σ b1 = 1002) ∧ n2 < zL σ b1 ∧ (((zI σ b1 n2 : Int32) ≤ x3 → zK σ r0 = 9 ∧ ∃ b3, zP σ r0 27 = some b3 ∧ (∃ n4 : Nat, x1 = nI n4 ∧ n4 < 2147483648 ∧ (zK σ b3 = 101 ∨ zK σ b3 = 1002) ∧ n4 < zL σ b3 ∧ (((zI σ b3 n4 : Int32) ≤ 0 → WP g C S 138 101 [some (.ref r0), some (.int x1), some (.int x2), some (.int x3)] [] σ Q) ∧ (¬ ((zI σ b3 n4 : Int32) ≤ 0) → zK σ r0 = 9 ∧ ∃ b5, zP σ r0 27 = some b5 ∧ (∃ n6 : Nat, x1 = nI n6 ∧ n6 < 2147483648 ∧ (zK σ b5 = 101 ∨ zK σ b5 = 1002) ∧ n6 < zL σ b5 ∧ (zK σ r0 = 9 ∧ WP g C S 111 0 [some (.ref r0), some (.int (96 + (zI σ b5 n6)))] [] σ (KK g C S 138 101 [some (.ref r0), some (.int x1), some (.int x2), some (.int x3)] [] Q false))))))) ∧ (¬ ((zI σ b1 n2 : Int32) ≤ x3) → zK σ r0 = 9 ∧ ∃ b7, zP σ r0 29 = some b7 ∧ (∃ n8 : Nat, (400 * x1) + x3 = nI n8 ∧ n8 < 2147483648 ∧ (zK σ b7 = 101 ∨ zK σ b7 = 1002) ∧ n8 < zL σ b7 ∧ (zK σ r0 = 9 ∧ WP g C S 111 0 [some (.ref r0), some (.int (zI σ b7 n8))] [] σ (KK g C S 138 73 [some (.ref r0), some (.int x1), some (.int x2), some (.int x3)] [] Q false))))))) :
    WP g C S 138 47 [some (.ref r0), some (.int x1), some (.int x2), some (.int x3)] [] σ Q := by
  refine r_g (pc' := 48) (ls' := [some (.ref r0), some (.int x1), some (.int x2), some (.int x3)]) (st' := [.int x3]) dX7_makeText_47 (fun _ => rfl) ?_
  refine r_g (pc' := 49) (ls' := [some (.ref r0), some (.int x1), some (.int x2), some (.int x3)]) (st' := [.ref r0, .int x3]) dX7_makeText_48 (fun _ => rfl) ?_
  obtain ⟨hK, b1, hP, h⟩ := h
  refine r_getP dX7_makeText_49 rfl (by decide) rfl hK hP ?_
  refine r_g (pc' := 53) (ls' := [some (.ref r0), some (.int x1), some (.int x2), some (.int x3)]) (st' := [.int x1, .ref b1, .int x3]) dX7_makeText_52 (fun _ => rfl) ?_
  obtain ⟨n2, hj, hn, hK, hL, h⟩ := h
  refine r_iald dX7_makeText_53 hj hn hK hL ?_
  obtain ⟨h1, h2⟩ := h
  refine r_icmp (t := 79) dX7_makeText_54 (by decide) c_ge (fun c => ?_) (fun c => ?_)
  · have h := h1 c
    refine r_g (pc' := 80) (ls' := [some (.ref r0), some (.int x1), some (.int x2), some (.int x3)]) (st' := [.ref r0]) dX7_makeText_79 (fun _ => rfl) ?_
    obtain ⟨hK, b3, hP, h⟩ := h
    refine r_getP dX7_makeText_80 rfl (by decide) rfl hK hP ?_
    refine r_g (pc' := 84) (ls' := [some (.ref r0), some (.int x1), some (.int x2), some (.int x3)]) (st' := [.int x1, .ref b3]) dX7_makeText_83 (fun _ => rfl) ?_
    obtain ⟨n4, hj, hn, hK, hL, h⟩ := h
    refine r_iald dX7_makeText_84 hj hn hK hL ?_
    obtain ⟨h1, h2⟩ := h
    refine r_if (t := 101) dX7_makeText_85 (by decide) c_le (fun c => ?_) (fun c => ?_)
    · have h := h1 c
      exact h
    · have h := h2 c
      refine r_g (pc' := 89) (ls' := [some (.ref r0), some (.int x1), some (.int x2), some (.int x3)]) (st' := [.ref r0]) dX7_makeText_88 (fun _ => rfl) ?_
      refine r_bi (v := 96) dX7_makeText_89 (by decide) ?_
      refine r_g (pc' := 92) (ls' := [some (.ref r0), some (.int x1), some (.int x2), some (.int x3)]) (st' := [.ref r0, .int 96, .ref r0]) dX7_makeText_91 (fun _ => rfl) ?_
      obtain ⟨hK, b5, hP, h⟩ := h
      refine r_getP dX7_makeText_92 rfl (by decide) rfl hK hP ?_
      refine r_g (pc' := 96) (ls' := [some (.ref r0), some (.int x1), some (.int x2), some (.int x3)]) (st' := [.int x1, .ref b5, .int 96, .ref r0]) dX7_makeText_95 (fun _ => rfl) ?_
      obtain ⟨n6, hj, hn, hK, hL, h⟩ := h
      refine r_iald dX7_makeText_96 hj hn hK hL ?_
      refine r_g (pc' := 98) (ls' := [some (.ref r0), some (.int x1), some (.int x2), some (.int x3)]) (st' := [.int (96 + (zI σ b5 n6)), .ref r0]) dX7_makeText_97 (fun _ => rfl) ?_
      obtain ⟨hK, h⟩ := h
      exact r_call (th := false) dX7_makeText_98 (fun _ => ex_calV rfl (by decide)) rfl (Nat.le_of_ble_eq_true rfl) (Nat.le_of_ble_eq_true rfl) (Nat.le_of_ble_eq_true rfl) (rcv0 rfl rfl (by decide) hK) rfl rfl rfl (fun q => nomatch q) h
  · have h := h2 c
    refine r_g (pc' := 58) (ls' := [some (.ref r0), some (.int x1), some (.int x2), some (.int x3)]) (st' := [.ref r0]) dX7_makeText_57 (fun _ => rfl) ?_
    refine r_g (pc' := 59) (ls' := [some (.ref r0), some (.int x1), some (.int x2), some (.int x3)]) (st' := [.ref r0, .ref r0]) dX7_makeText_58 (fun _ => rfl) ?_
    obtain ⟨hK, b7, hP, h⟩ := h
    refine r_getP dX7_makeText_59 rfl (by decide) rfl hK hP ?_
    refine r_si (v := 400) dX7_makeText_62 (by decide) ?_
    refine r_g (pc' := 66) (ls' := [some (.ref r0), some (.int x1), some (.int x2), some (.int x3)]) (st' := [.int x1, .int 400, .ref b7, .ref r0]) dX7_makeText_65 (fun _ => rfl) ?_
    refine r_g (pc' := 67) (ls' := [some (.ref r0), some (.int x1), some (.int x2), some (.int x3)]) (st' := [.int (400 * x1), .ref b7, .ref r0]) dX7_makeText_66 (fun _ => rfl) ?_
    refine r_g (pc' := 68) (ls' := [some (.ref r0), some (.int x1), some (.int x2), some (.int x3)]) (st' := [.int x3, .int (400 * x1), .ref b7, .ref r0]) dX7_makeText_67 (fun _ => rfl) ?_
    refine r_g (pc' := 69) (ls' := [some (.ref r0), some (.int x1), some (.int x2), some (.int x3)]) (st' := [.int ((400 * x1) + x3), .ref b7, .ref r0]) dX7_makeText_68 (fun _ => rfl) ?_
    obtain ⟨n8, hj, hn, hK, hL, h⟩ := h
    refine r_iald dX7_makeText_69 hj hn hK hL ?_
    obtain ⟨hK, h⟩ := h
    exact r_call (th := false) dX7_makeText_70 (fun _ => ex_calV rfl (by decide)) rfl (Nat.le_of_ble_eq_true rfl) (Nat.le_of_ble_eq_true rfl) (Nat.le_of_ble_eq_true rfl) (rcv0 rfl rfl (by decide) hK) rfl rfl rfl (fun q => nomatch q) h
theorem b138_73 {g : Nat → Nat} {C S : Nat} {σ : PS} {Q : Rs → PS → Prop} {r0 : Nat} {x1 : Int32} {x2 : Int32} {x3 : Int32}
    (h : WP g C S 138 47 [some (.ref r0), some (.int x1), some (.int x2), some (.int (x3 + 1))] [] σ Q) :
    WP g C S 138 73 [some (.ref r0), some (.int x1), some (.int x2), some (.int x3)] [] σ Q := by
  refine r_inc (v := 1) (ls' := [some (.ref r0), some (.int x1), some (.int x2), some (.int (x3 + 1))]) dX7_makeText_73 rfl (Nat.le_of_ble_eq_true rfl) (by decide) rfl ?_
  refine r_goto (t := 47) dX7_makeText_76 (by decide) ?_
  exact h
theorem b138_101 {g : Nat → Nat} {C S : Nat} {σ : PS} {Q : Rs → PS → Prop} {r0 : Nat} {x1 : Int32} {x2 : Int32} {l3 : Option Value}
    (h : zK σ r0 = 9 ∧ (¬ (zI σ r0 12 : Int32) = 2 → WP g C S 138 117 [some (.ref r0), some (.int x1), some (.int x2), l3] [.int 93, .ref r0] σ Q) ∧ (¬ (¬ (zI σ r0 12 : Int32) = 2) → WP g C S 138 117 [some (.ref r0), some (.int x1), some (.int x2), l3] [.int 41, .ref r0] σ Q)) :
    WP g C S 138 101 [some (.ref r0), some (.int x1), some (.int x2), l3] [] σ Q := by
  refine r_g (pc' := 102) (ls' := [some (.ref r0), some (.int x1), some (.int x2), l3]) (st' := [.ref r0]) dX7_makeText_101 (fun _ => rfl) ?_
  refine r_g (pc' := 103) (ls' := [some (.ref r0), some (.int x1), some (.int x2), l3]) (st' := [.ref r0, .ref r0]) dX7_makeText_102 (fun _ => rfl) ?_
  obtain ⟨hK, h⟩ := h
  refine r_getI dX7_makeText_103 rfl (by decide) rfl hK ?_
  refine r_ic (v := 2) dX7_makeText_106 (by decide) ?_
  obtain ⟨h1, h2⟩ := h
  refine r_icmp (t := 115) dX7_makeText_107 (by decide) c_ne (fun c => ?_) (fun c => ?_)
  · have h := h1 c
    refine r_bi (v := 93) dX7_makeText_115 (by decide) ?_
    exact h
  · have h := h2 c
    refine r_bi (v := 41) dX7_makeText_110 (by decide) ?_
    refine r_goto (t := 117) dX7_makeText_112 (by decide) ?_
    exact h
theorem b138_117 {g : Nat → Nat} {C S : Nat} {σ : PS} {Q : Rs → PS → Prop} {r0 : Nat} {x1 : Int32} {x2 : Int32} {l3 : Option Value} {u0 : Int32} {w1 : Nat}
    (h : zK σ w1 = 9 ∧ WP g C S 111 0 [some (.ref w1), some (.int u0)] [] σ (KK g C S 138 120 [some (.ref r0), some (.int x1), some (.int x2), l3] [] Q false)) :
    WP g C S 138 117 [some (.ref r0), some (.int x1), some (.int x2), l3] [.int u0, .ref w1] σ Q := by
  obtain ⟨hK, h⟩ := h
  exact r_call (th := false) dX7_makeText_117 (fun _ => ex_calV rfl (by decide)) rfl (Nat.le_of_ble_eq_true rfl) (Nat.le_of_ble_eq_true rfl) (Nat.le_of_ble_eq_true rfl) (rcv0 rfl rfl (by decide) hK) rfl rfl rfl (fun q => nomatch q) h
theorem b138_120 {g : Nat → Nat} {C S : Nat} {σ : PS} {Q : Rs → PS → Prop} {r0 : Nat} {x1 : Int32} {x2 : Int32} {l3 : Option Value}
    (h : zK σ r0 = 9 ∧ zK σ r0 = 9 ∧ (∀ τ1, τ1 = stI σ r0 37 (zI σ r0 21) → zK τ1 r0 = 9 ∧ WP g C S 134 0 [some (.ref r0), some (.int x2), none, none] [] τ1 (KK g C S 138 133 [some (.ref r0), some (.int x1), some (.int x2), l3] [] Q false))) :
    WP g C S 138 120 [some (.ref r0), some (.int x1), some (.int x2), l3] [] σ Q := by
  refine r_g (pc' := 121) (ls' := [some (.ref r0), some (.int x1), some (.int x2), l3]) (st' := [.ref r0]) dX7_makeText_120 (fun _ => rfl) ?_
  refine r_g (pc' := 122) (ls' := [some (.ref r0), some (.int x1), some (.int x2), l3]) (st' := [.ref r0, .ref r0]) dX7_makeText_121 (fun _ => rfl) ?_
  obtain ⟨hK, h⟩ := h
  refine r_getI dX7_makeText_122 rfl (by decide) rfl hK ?_
  obtain ⟨hK, h⟩ := h
  refine r_putI dX7_makeText_125 rfl (by decide) (Or.inl rfl) rfl (Or.inl rfl) hK ?_
  generalize eτ1 : stI σ r0 37 (zI σ r0 21) = τ1
  replace h := h _ eτ1.symm
  refine r_g (pc' := 129) (ls' := [some (.ref r0), some (.int x1), some (.int x2), l3]) (st' := [.ref r0]) dX7_makeText_128 (fun _ => rfl) ?_
  refine r_g (pc' := 130) (ls' := [some (.ref r0), some (.int x1), some (.int x2), l3]) (st' := [.int x2, .ref r0]) dX7_makeText_129 (fun _ => rfl) ?_
  obtain ⟨hK, h⟩ := h
  exact r_call (th := false) dX7_makeText_130 (fun _ => ex_calV rfl (by decide)) rfl (Nat.le_of_ble_eq_true rfl) (Nat.le_of_ble_eq_true rfl) (Nat.le_of_ble_eq_true rfl) (rcv0 rfl rfl (by decide) hK) rfl rfl rfl (fun q => nomatch q) h
theorem b138_133 {g : Nat → Nat} {C S : Nat} {σ : PS} {Q : Rs → PS → Prop} {r0 : Nat} {x1 : Int32} {x2 : Int32} {l3 : Option Value}
    (h : zK σ r0 = 9 ∧ WP g C S 103 0 [some (.ref r0), some (.int x2), some (.int 1), none] [] σ (KK g C S 138 140 [some (.ref r0), some (.int x1), some (.int x2), l3] [.ref r0] Q false)) :
    WP g C S 138 133 [some (.ref r0), some (.int x1), some (.int x2), l3] [] σ Q := by
  refine r_g (pc' := 134) (ls' := [some (.ref r0), some (.int x1), some (.int x2), l3]) (st' := [.ref r0]) dX7_makeText_133 (fun _ => rfl) ?_
  refine r_g (pc' := 135) (ls' := [some (.ref r0), some (.int x1), some (.int x2), l3]) (st' := [.ref r0, .ref r0]) dX7_makeText_134 (fun _ => rfl) ?_
  refine r_g (pc' := 136) (ls' := [some (.ref r0), some (.int x1), some (.int x2), l3]) (st' := [.int x2, .ref r0, .ref r0]) dX7_makeText_135 (fun _ => rfl) ?_
  refine r_ic (v := 1) dX7_makeText_136 (by decide) ?_
  obtain ⟨hK, h⟩ := h
  exact r_call (th := false) dX7_makeText_137 (fun _ => ex_calV rfl (by decide)) rfl (Nat.le_of_ble_eq_true rfl) (Nat.le_of_ble_eq_true rfl) (Nat.le_of_ble_eq_true rfl) (rcv0 rfl rfl (by decide) hK) rfl rfl rfl (fun q => nomatch q) h
theorem b138_140 {g : Nat → Nat} {C S : Nat} {σ : PS} {Q : Rs → PS → Prop} {r0 : Nat} {x1 : Int32} {x2 : Int32} {l3 : Option Value} {u0 : Int32} {w1 : Nat}
    (h : zK σ w1 = 9 ∧ WP g C S 135 0 [some (.ref w1), some (.int u0)] [] σ (KK g C S 138 143 [some (.ref r0), some (.int x1), some (.int x2), l3] [] Q false)) :
    WP g C S 138 140 [some (.ref r0), some (.int x1), some (.int x2), l3] [.int u0, .ref w1] σ Q := by
  obtain ⟨hK, h⟩ := h
  exact r_call (th := false) dX7_makeText_140 (fun _ => ex_calV rfl (by decide)) rfl (Nat.le_of_ble_eq_true rfl) (Nat.le_of_ble_eq_true rfl) (Nat.le_of_ble_eq_true rfl) (rcv0 rfl rfl (by decide) hK) rfl rfl rfl (fun q => nomatch q) h
theorem b138_143 {g : Nat → Nat} {C S : Nat} {σ : PS} {Q : Rs → PS → Prop} {r0 : Nat} {x1 : Int32} {x2 : Int32} {l3 : Option Value}
    (h : zK σ r0 = 9 ∧ WP g C S 136 0 [some (.ref r0), some (.int x2), none, none, none] [] σ (KK g C S 138 148 [some (.ref r0), some (.int x1), some (.int x2), l3] [] Q false)) :
    WP g C S 138 143 [some (.ref r0), some (.int x1), some (.int x2), l3] [] σ Q := by
  refine r_g (pc' := 144) (ls' := [some (.ref r0), some (.int x1), some (.int x2), l3]) (st' := [.ref r0]) dX7_makeText_143 (fun _ => rfl) ?_
  refine r_g (pc' := 145) (ls' := [some (.ref r0), some (.int x1), some (.int x2), l3]) (st' := [.int x2, .ref r0]) dX7_makeText_144 (fun _ => rfl) ?_
  obtain ⟨hK, h⟩ := h
  exact r_call (th := false) dX7_makeText_145 (fun _ => ex_calV rfl (by decide)) rfl (Nat.le_of_ble_eq_true rfl) (Nat.le_of_ble_eq_true rfl) (Nat.le_of_ble_eq_true rfl) (rcv0 rfl rfl (by decide) hK) rfl rfl rfl (fun q => nomatch q) h
theorem b138_148 {g : Nat → Nat} {C S : Nat} {σ : PS} {Q : Rs → PS → Prop} {r0 : Nat} {x1 : Int32} {x2 : Int32} {l3 : Option Value}
    (h : zK σ r0 = 9 ∧ WP g C S 103 0 [some (.ref r0), some (.int x2), some (.int 2), none] [] σ (KK g C S 138 155 [some (.ref r0), some (.int x1), some (.int x2), l3] [.ref r0] Q false)) :
    WP g C S 138 148 [some (.ref r0), some (.int x1), some (.int x2), l3] [] σ Q := by
  refine r_g (pc' := 149) (ls' := [some (.ref r0), some (.int x1), some (.int x2), l3]) (st' := [.ref r0]) dX7_makeText_148 (fun _ => rfl) ?_
  refine r_g (pc' := 150) (ls' := [some (.ref r0), some (.int x1), some (.int x2), l3]) (st' := [.ref r0, .ref r0]) dX7_makeText_149 (fun _ => rfl) ?_
  refine r_g (pc' := 151) (ls' := [some (.ref r0), some (.int x1), some (.int x2), l3]) (st' := [.int x2, .ref r0, .ref r0]) dX7_makeText_150 (fun _ => rfl) ?_
  refine r_ic (v := 2) dX7_makeText_151 (by decide) ?_
  obtain ⟨hK, h⟩ := h
  exact r_call (th := false) dX7_makeText_152 (fun _ => ex_calV rfl (by decide)) rfl (Nat.le_of_ble_eq_true rfl) (Nat.le_of_ble_eq_true rfl) (Nat.le_of_ble_eq_true rfl) (rcv0 rfl rfl (by decide) hK) rfl rfl rfl (fun q => nomatch q) h
theorem b138_155 {g : Nat → Nat} {C S : Nat} {σ : PS} {Q : Rs → PS → Prop} {r0 : Nat} {x1 : Int32} {l2 : Option Value} {l3 : Option Value} {u0 : Int32} {w1 : Nat}
    (h : zK σ w1 = 9 ∧ WP g C S 135 0 [some (.ref w1), some (.int u0)] [] σ (KK g C S 138 158 [some (.ref r0), some (.int x1), l2, l3] [] Q false)) :
    WP g C S 138 155 [some (.ref r0), some (.int x1), l2, l3] [.int u0, .ref w1] σ Q := by
  obtain ⟨hK, h⟩ := h
  exact r_call (th := false) dX7_makeText_155 (fun _ => ex_calV rfl (by decide)) rfl (Nat.le_of_ble_eq_true rfl) (Nat.le_of_ble_eq_true rfl) (Nat.le_of_ble_eq_true rfl) (rcv0 rfl rfl (by decide) hK) rfl rfl rfl (fun q => nomatch q) h
theorem b138_158 {g : Nat → Nat} {C S : Nat} {σ : PS} {Q : Rs → PS → Prop} {r0 : Nat} {x1 : Int32} {l2 : Option Value} {l3 : Option Value}
    (h : zK σ r0 = 9 ∧ zK σ r0 = 9 ∧ ((zI σ r0 21 : Int32) ≤ (zI σ r0 37) → WP g C S 138 175 [some (.ref r0), some (.int x1), l2, l3] [] σ Q) ∧ (¬ ((zI σ r0 21 : Int32) ≤ (zI σ r0 37)) → zK σ r0 = 9 ∧ WP g C S 111 0 [some (.ref r0), some (.int 46)] [] σ (KK g C S 138 175 [some (.ref r0), some (.int x1), l2, l3] [] Q false))) :
    WP g C S 138 158 [some (.ref r0), some (.int x1), l2, l3] [] σ Q := by
  refine r_g (pc' := 159) (ls' := [some (.ref r0), some (.int x1), l2, l3]) (st' := [.ref r0]) dX7_makeText_158 (fun _ => rfl) ?_
  obtain ⟨hK, h⟩ := h
  refine r_getI dX7_makeText_159 rfl (by decide) rfl hK ?_
  refine r_g (pc' := 163) (ls' := [some (.ref r0), some (.int x1), l2, l3]) (st' := [.ref r0, .int (zI σ r0 21)]) dX7_makeText_162 (fun _ => rfl) ?_
  obtain ⟨hK, h⟩ := h
  refine r_getI dX7_makeText_163 rfl (by decide) rfl hK ?_
  obtain ⟨h1, h2⟩ := h
  refine r_icmp (t := 175) dX7_makeText_166 (by decide) c_le (fun c => ?_) (fun c => ?_)
  · have h := h1 c
    exact h
  · have h := h2 c
    refine r_g (pc' := 170) (ls' := [some (.ref r0), some (.int x1), l2, l3]) (st' := [.ref r0]) dX7_makeText_169 (fun _ => rfl) ?_
    refine r_bi (v := 46) dX7_makeText_170 (by decide) ?_
    obtain ⟨hK, h⟩ := h
    exact r_call (th := false) dX7_makeText_172 (fun _ => ex_calV rfl (by decide)) rfl (Nat.le_of_ble_eq_true rfl) (Nat.le_of_ble_eq_true rfl) (Nat.le_of_ble_eq_true rfl) (rcv0 rfl rfl (by decide) hK) rfl rfl rfl (fun q => nomatch q) h
theorem b138_175 {g : Nat → Nat} {C S : Nat} {σ : PS} {Q : Rs → PS → Prop} {r0 : Nat} {x1 : Int32} {l2 : Option Value} {l3 : Option Value}
    (h : zK σ r0 = 9 ∧ ∃ b1, zP σ r0 30 = some b1 ∧ (zK σ r0 = 9 ∧ ∃ n2 : Nat, x1 = nI n2 ∧ n2 < 2147483648 ∧ zK σ b1 = 101 ∧ n2 < zL σ b1 ∧ (∀ τ3, τ3 = stI σ b1 n2 (zI σ r0 21) → WP g C S 138 187 [some (.ref r0), some (.int x1), (clr l2), some (.int 0)] [] τ3 Q))) :
    WP g C S 138 175 [some (.ref r0), some (.int x1), l2, l3] [] σ Q := by
  refine r_g (pc' := 176) (ls' := [some (.ref r0), some (.int x1), l2, l3]) (st' := [.ref r0]) dX7_makeText_175 (fun _ => rfl) ?_
  obtain ⟨hK, b1, hP, h⟩ := h
  refine r_getP dX7_makeText_176 rfl (by decide) rfl hK hP ?_
  refine r_g (pc' := 180) (ls' := [some (.ref r0), some (.int x1), l2, l3]) (st' := [.int x1, .ref b1]) dX7_makeText_179 (fun _ => rfl) ?_
  refine r_g (pc' := 181) (ls' := [some (.ref r0), some (.int x1), l2, l3]) (st' := [.ref r0, .int x1, .ref b1]) dX7_makeText_180 (fun _ => rfl) ?_
  obtain ⟨hK, h⟩ := h
  refine r_getI dX7_makeText_181 rfl (by decide) rfl hK ?_
  obtain ⟨n2, hj, hn, hK, hL, h⟩ := h
  refine r_iast dX7_makeText_184 hj hn hK hL ?_
  generalize eτ3 : stI σ b1 n2 (zI σ r0 21) = τ3
  replace h := h _ eτ3.symm
  refine r_ic (v := 0) dX7_makeText_185 (by decide) ?_
  refine r_g (pc' := 187) (ls' := [some (.ref r0), some (.int x1), (clr l2), some (.int 0)]) (st' := []) dX7_makeText_186 (fun _ => rfl) ?_
  exact h
theorem b138_187 {g : Nat → Nat} {C S : Nat} {σ : PS} {Q : Rs → PS → Prop} {r0 : Nat} {x1 : Int32} {l2 : Option Value} {x3 : Int32}
    (h : zK σ r0 = 9 ∧ ((zI σ r0 21 : Int32) ≤ x3 → Q (Sum.inl none) σ) ∧ (¬ ((zI σ r0 21 : Int32) ≤ x3) → zK σ r0 = 9 ∧ ∃ b1, zP σ r0 31 = some b1 ∧ (zK σ r0 = 9 ∧ ∃ b2, zP σ r0 20 = some b2 ∧ (∃ n3 : Nat, x3 = nI n3 ∧ n3 < 2147483648 ∧ (zK σ b2 = 101 ∨ zK σ b2 = 1002) ∧ n3 < zL σ b2 ∧ (∃ n4 : Nat, (1000 * x1) + x3 = nI n4 ∧ n4 < 2147483648 ∧ zK σ b1 = 101 ∧ n4 < zL σ b1 ∧ (∀ τ5, τ5 = stI σ b1 n4 (zI σ b2 n3) → WP g C S 138 187 [some (.ref r0), some (.int x1), (clr l2), some (.int (x3 + 1))] [] τ5 Q)))))) :
    WP g C S 138 187 [some (.ref r0), some (.int x1), l2, some (.int x3)] [] σ Q := by
  refine r_g (pc' := 188) (ls' := [some (.ref r0), some (.int x1), l2, some (.int x3)]) (st' := [.int x3]) dX7_makeText_187 (fun _ => rfl) ?_
  refine r_g (pc' := 189) (ls' := [some (.ref r0), some (.int x1), l2, some (.int x3)]) (st' := [.ref r0, .int x3]) dX7_makeText_188 (fun _ => rfl) ?_
  obtain ⟨hK, h⟩ := h
  refine r_getI dX7_makeText_189 rfl (by decide) rfl hK ?_
  obtain ⟨h1, h2⟩ := h
  refine r_icmp (t := 219) dX7_makeText_192 (by decide) c_ge (fun c => ?_) (fun c => ?_)
  · have h := h1 c
    exact r_vret dX7_makeText_219 rfl h
  · have h := h2 c
    refine r_g (pc' := 196) (ls' := [some (.ref r0), some (.int x1), l2, some (.int x3)]) (st' := [.ref r0]) dX7_makeText_195 (fun _ => rfl) ?_
    obtain ⟨hK, b1, hP, h⟩ := h
    refine r_getP dX7_makeText_196 rfl (by decide) rfl hK hP ?_
    refine r_si (v := 1000) dX7_makeText_199 (by decide) ?_
    refine r_g (pc' := 203) (ls' := [some (.ref r0), some (.int x1), l2, some (.int x3)]) (st' := [.int x1, .int 1000, .ref b1]) dX7_makeText_202 (fun _ => rfl) ?_
    refine r_g (pc' := 204) (ls' := [some (.ref r0), some (.int x1), l2, some (.int x3)]) (st' := [.int (1000 * x1), .ref b1]) dX7_makeText_203 (fun _ => rfl) ?_
    refine r_g (pc' := 205) (ls' := [some (.ref r0), some (.int x1), l2, some (.int x3)]) (st' := [.int x3, .int (1000 * x1), .ref b1]) dX7_makeText_204 (fun _ => rfl) ?_
    refine r_g (pc' := 206) (ls' := [some (.ref r0), some (.int x1), l2, some (.int x3)]) (st' := [.int ((1000 * x1) + x3), .ref b1]) dX7_makeText_205 (fun _ => rfl) ?_
    refine r_g (pc' := 207) (ls' := [some (.ref r0), some (.int x1), l2, some (.int x3)]) (st' := [.ref r0, .int ((1000 * x1) + x3), .ref b1]) dX7_makeText_206 (fun _ => rfl) ?_
    obtain ⟨hK, b2, hP, h⟩ := h
    refine r_getP dX7_makeText_207 rfl (by decide) rfl hK hP ?_
    refine r_g (pc' := 211) (ls' := [some (.ref r0), some (.int x1), l2, some (.int x3)]) (st' := [.int x3, .ref b2, .int ((1000 * x1) + x3), .ref b1]) dX7_makeText_210 (fun _ => rfl) ?_
    obtain ⟨n3, hj, hn, hK, hL, h⟩ := h
    refine r_iald dX7_makeText_211 hj hn hK hL ?_
    obtain ⟨n4, hj, hn, hK, hL, h⟩ := h
    refine r_iast dX7_makeText_212 hj hn hK hL ?_
    generalize eτ5 : stI σ b1 n4 (zI σ b2 n3) = τ5
    replace h := h _ eτ5.symm
    refine r_inc (v := 1) (ls' := [some (.ref r0), some (.int x1), (clr l2), some (.int (x3 + 1))]) dX7_makeText_213 rfl (Nat.le_of_ble_eq_true rfl) (by decide) rfl ?_
    refine r_goto (t := 187) dX7_makeText_216 (by decide) ?_
    exact h
theorem b139_0 {g : Nat → Nat} {C S : Nat} {σ : PS} {Q : Rs → PS → Prop} {r0 : Nat} {x1 : Int32} {x2 : Int32}
    (h : zK σ r0 = 9 ∧ WP g C S 103 0 [some (.ref r0), some (.int x1), some (.int x2), none] [] σ (KK g C S 139 6 [some (.ref r0), some (.int x1), some (.int x2)] [] Q false)) :
    WP g C S 139 0 [some (.ref r0), some (.int x1), some (.int x2)] [] σ Q := by
  refine r_g (pc' := 1) (ls' := [some (.ref r0), some (.int x1), some (.int x2)]) (st' := [.ref r0]) dX7_want_0 (fun _ => rfl) ?_
  refine r_g (pc' := 2) (ls' := [some (.ref r0), some (.int x1), some (.int x2)]) (st' := [.int x1, .ref r0]) dX7_want_1 (fun _ => rfl) ?_
  refine r_g (pc' := 3) (ls' := [some (.ref r0), some (.int x1), some (.int x2)]) (st' := [.int x2, .int x1, .ref r0]) dX7_want_2 (fun _ => rfl) ?_
  obtain ⟨hK, h⟩ := h
  exact r_call (th := false) dX7_want_3 (fun _ => ex_calV rfl (by decide)) rfl (Nat.le_of_ble_eq_true rfl) (Nat.le_of_ble_eq_true rfl) (Nat.le_of_ble_eq_true rfl) (rcv0 rfl rfl (by decide) hK) rfl rfl rfl (fun q => nomatch q) h
theorem b139_6 {g : Nat → Nat} {C S : Nat} {σ : PS} {Q : Rs → PS → Prop} {r0 : Nat} {x1 : Int32} {x2 : Int32} {u0 : Int32}
    (h : (¬ (u0 : Int32) = (-1) → WP g C S 139 40 [some (.ref r0), some (.int x1), some (.int x2)] [] σ Q) ∧ (¬ (¬ (u0 : Int32) = (-1)) → zK σ r0 = 9 ∧ ∃ b1, zP σ r0 33 = some b1 ∧ (zK σ r0 = 9 ∧ ∃ n2 : Nat, zI σ r0 32 = nI n2 ∧ n2 < 2147483648 ∧ zK σ b1 = 101 ∧ n2 < zL σ b1 ∧ (∀ τ3, τ3 = stI σ b1 n2 x1 → zK τ3 r0 = 9 ∧ ∃ b4, zP τ3 r0 34 = some b4 ∧ (zK τ3 r0 = 9 ∧ ∃ n5 : Nat, zI τ3 r0 32 = nI n5 ∧ n5 < 2147483648 ∧ zK τ3 b4 = 101 ∧ n5 < zL τ3 b4 ∧ (∀ τ6, τ6 = stI τ3 b4 n5 x2 → zK τ6 r0 = 9 ∧ zK τ6 r0 = 9 ∧ (∀ τ7, τ7 = stI τ6 r0 32 ((zI τ6 r0 32) + 1) → WP g C S 139 40 [some (.ref r0), some (.int x1), some (.int x2)] [] τ7 Q))))))) :
    WP g C S 139 6 [some (.ref r0), some (.int x1), some (.int x2)] [.int u0] σ Q := by
  refine r_ic (v := -1) dX7_want_6 (by decide) ?_
  obtain ⟨h1, h2⟩ := h
  refine r_icmp (t := 40) dX7_want_7 (by decide) c_ne (fun c => ?_) (fun c => ?_)
  · have h := h1 c
    exact h
  · have h := h2 c
    refine r_g (pc' := 11) (ls' := [some (.ref r0), some (.int x1), some (.int x2)]) (st' := [.ref r0]) dX7_want_10 (fun _ => rfl) ?_
    obtain ⟨hK, b1, hP, h⟩ := h
    refine r_getP dX7_want_11 rfl (by decide) rfl hK hP ?_
    refine r_g (pc' := 15) (ls' := [some (.ref r0), some (.int x1), some (.int x2)]) (st' := [.ref r0, .ref b1]) dX7_want_14 (fun _ => rfl) ?_
    obtain ⟨hK, h⟩ := h
    refine r_getI dX7_want_15 rfl (by decide) rfl hK ?_
    refine r_g (pc' := 19) (ls' := [some (.ref r0), some (.int x1), some (.int x2)]) (st' := [.int x1, .int (zI σ r0 32), .ref b1]) dX7_want_18 (fun _ => rfl) ?_
    obtain ⟨n2, hj, hn, hK, hL, h⟩ := h
    refine r_iast dX7_want_19 hj hn hK hL ?_
    generalize eτ3 : stI σ b1 n2 x1 = τ3
    replace h := h _ eτ3.symm
    refine r_g (pc' := 21) (ls' := [some (.ref r0), some (.int x1), some (.int x2)]) (st' := [.ref r0]) dX7_want_20 (fun _ => rfl) ?_
    obtain ⟨hK, b4, hP, h⟩ := h
    refine r_getP dX7_want_21 rfl (by decide) rfl hK hP ?_
    refine r_g (pc' := 25) (ls' := [some (.ref r0), some (.int x1), some (.int x2)]) (st' := [.ref r0, .ref b4]) dX7_want_24 (fun _ => rfl) ?_
    obtain ⟨hK, h⟩ := h
    refine r_getI dX7_want_25 rfl (by decide) rfl hK ?_
    refine r_g (pc' := 29) (ls' := [some (.ref r0), some (.int x1), some (.int x2)]) (st' := [.int x2, .int (zI τ3 r0 32), .ref b4]) dX7_want_28 (fun _ => rfl) ?_
    obtain ⟨n5, hj, hn, hK, hL, h⟩ := h
    refine r_iast dX7_want_29 hj hn hK hL ?_
    generalize eτ6 : stI τ3 b4 n5 x2 = τ6
    replace h := h _ eτ6.symm
    refine r_g (pc' := 31) (ls' := [some (.ref r0), some (.int x1), some (.int x2)]) (st' := [.ref r0]) dX7_want_30 (fun _ => rfl) ?_
    refine r_g (pc' := 32) (ls' := [some (.ref r0), some (.int x1), some (.int x2)]) (st' := [.ref r0, .ref r0]) dX7_want_31 (fun _ => rfl) ?_
    obtain ⟨hK, h⟩ := h
    refine r_getI dX7_want_32 rfl (by decide) rfl hK ?_
    refine r_ic (v := 1) dX7_want_35 (by decide) ?_
    refine r_g (pc' := 37) (ls' := [some (.ref r0), some (.int x1), some (.int x2)]) (st' := [.int ((zI τ6 r0 32) + 1), .ref r0]) dX7_want_36 (fun _ => rfl) ?_
    obtain ⟨hK, h⟩ := h
    refine r_putI dX7_want_37 rfl (by decide) (Or.inl rfl) rfl (Or.inl rfl) hK ?_
    generalize eτ7 : stI τ6 r0 32 ((zI τ6 r0 32) + 1) = τ7
    replace h := h _ eτ7.symm
    exact h
theorem b139_40 {g : Nat → Nat} {C S : Nat} {σ : PS} {Q : Rs → PS → Prop} {l0 : Option Value} {l1 : Option Value} {l2 : Option Value}
    (h : Q (Sum.inl none) σ) :
    WP g C S 139 40 [l0, l1, l2] [] σ Q := by
  exact r_vret dX7_want_40 rfl h
theorem b140_0 {g : Nat → Nat} {C S : Nat} {σ : PS} {Q : Rs → PS → Prop} {r0 : Nat} {x1 : Int32} {l2 : Option Value}
    (h : zK σ r0 = 9 ∧ ∃ b1, zP σ r0 2 = some b1 ∧ (∃ n2 : Nat, x1 = nI n2 ∧ n2 < 2147483648 ∧ (zK σ b1 = 101 ∨ zK σ b1 = 1002) ∧ n2 < zL σ b1 ∧ (((3 : Int32) ≤ (zI σ b1 n2) → WP g C S 140 18 [some (.ref r0), some (.int x1), some (.int (zI σ b1 n2))] [] σ Q) ∧ (¬ ((3 : Int32) ≤ (zI σ b1 n2)) → zK σ r0 = 9 ∧ WP g C S 139 0 [some (.ref r0), some (.int x1), some (.int 0)] [] σ (KK g C S 140 18 [some (.ref r0), some (.int x1), some (.int (zI σ b1 n2))] [] Q false))))) :
    WP g C S 140 0 [some (.ref r0), some (.int x1), l2] [] σ Q := by
  refine r_g (pc' := 1) (ls' := [some (.ref r0), some (.int x1), l2]) (st' := [.ref r0]) dX7_lookWhatLacks_0 (fun _ => rfl) ?_
  obtain ⟨hK, b1, hP, h⟩ := h
  refine r_getP dX7_lookWhatLacks_1 rfl (by decide) rfl hK hP ?_
  refine r_g (pc' := 5) (ls' := [some (.ref r0), some (.int x1), l2]) (st' := [.int x1, .ref b1]) dX7_lookWhatLacks_4 (fun _ => rfl) ?_
  obtain ⟨n2, hj, hn, hK, hL, h⟩ := h
  refine r_iald dX7_lookWhatLacks_5 hj hn hK hL ?_
  refine r_g (pc' := 7) (ls' := [some (.ref r0), some (.int x1), some (.int (zI σ b1 n2))]) (st' := []) dX7_lookWhatLacks_6 (fun _ => rfl) ?_
  refine r_g (pc' := 8) (ls' := [some (.ref r0), some (.int x1), some (.int (zI σ b1 n2))]) (st' := [.int (zI σ b1 n2)]) dX7_lookWhatLacks_7 (fun _ => rfl) ?_
  refine r_ic (v := 3) dX7_lookWhatLacks_8 (by decide) ?_
  obtain ⟨h1, h2⟩ := h
  refine r_icmp (t := 18) dX7_lookWhatLacks_9 (by decide) c_ge (fun c => ?_) (fun c => ?_)
  · have h := h1 c
    exact h
  · have h := h2 c
    refine r_g (pc' := 13) (ls' := [some (.ref r0), some (.int x1), some (.int (zI σ b1 n2))]) (st' := [.ref r0]) dX7_lookWhatLacks_12 (fun _ => rfl) ?_
    refine r_g (pc' := 14) (ls' := [some (.ref r0), some (.int x1), some (.int (zI σ b1 n2))]) (st' := [.int x1, .ref r0]) dX7_lookWhatLacks_13 (fun _ => rfl) ?_
    refine r_ic (v := 0) dX7_lookWhatLacks_14 (by decide) ?_
    obtain ⟨hK, h⟩ := h
    exact r_call (th := false) dX7_lookWhatLacks_15 (fun _ => ex_calV rfl (by decide)) rfl (Nat.le_of_ble_eq_true rfl) (Nat.le_of_ble_eq_true rfl) (Nat.le_of_ble_eq_true rfl) (rcv0 rfl rfl (by decide) hK) rfl rfl rfl (fun q => nomatch q) h
theorem b140_18 {g : Nat → Nat} {C S : Nat} {σ : PS} {Q : Rs → PS → Prop} {r0 : Nat} {x1 : Int32} {x2 : Int32}
    (h : zK σ r0 = 9 ∧ WP g C S 139 0 [some (.ref r0), some (.int x1), some (.int 1)] [] σ (KK g C S 140 24 [some (.ref r0), some (.int x1), some (.int x2)] [] Q false)) :
    WP g C S 140 18 [some (.ref r0), some (.int x1), some (.int x2)] [] σ Q := by
  refine r_g (pc' := 19) (ls' := [some (.ref r0), some (.int x1), some (.int x2)]) (st' := [.ref r0]) dX7_lookWhatLacks_18 (fun _ => rfl) ?_
  refine r_g (pc' := 20) (ls' := [some (.ref r0), some (.int x1), some (.int x2)]) (st' := [.int x1, .ref r0]) dX7_lookWhatLacks_19 (fun _ => rfl) ?_
  refine r_ic (v := 1) dX7_lookWhatLacks_20 (by decide) ?_
  obtain ⟨hK, h⟩ := h
  exact r_call (th := false) dX7_lookWhatLacks_21 (fun _ => ex_calV rfl (by decide)) rfl (Nat.le_of_ble_eq_true rfl) (Nat.le_of_ble_eq_true rfl) (Nat.le_of_ble_eq_true rfl) (rcv0 rfl rfl (by decide) hK) rfl rfl rfl (fun q => nomatch q) h
theorem b140_24 {g : Nat → Nat} {C S : Nat} {σ : PS} {Q : Rs → PS → Prop} {r0 : Nat} {x1 : Int32} {x2 : Int32}
    (h : ((4 : Int32) ≤ x2 → WP g C S 140 35 [some (.ref r0), some (.int x1), some (.int x2)] [] σ Q) ∧ (¬ ((4 : Int32) ≤ x2) → zK σ r0 = 9 ∧ WP g C S 139 0 [some (.ref r0), some (.int x1), some (.int 2)] [] σ (KK g C S 140 35 [some (.ref r0), some (.int x1), some (.int x2)] [] Q false))) :
    WP g C S 140 24 [some (.ref r0), some (.int x1), some (.int x2)] [] σ Q := by
  refine r_g (pc' := 25) (ls' := [some (.ref r0), some (.int x1), some (.int x2)]) (st' := [.int x2]) dX7_lookWhatLacks_24 (fun _ => rfl) ?_
  refine r_ic (v := 4) dX7_lookWhatLacks_25 (by decide) ?_
  obtain ⟨h1, h2⟩ := h
  refine r_icmp (t := 35) dX7_lookWhatLacks_26 (by decide) c_ge (fun c => ?_) (fun c => ?_)
  · have h := h1 c
    exact h
  · have h := h2 c
    refine r_g (pc' := 30) (ls' := [some (.ref r0), some (.int x1), some (.int x2)]) (st' := [.ref r0]) dX7_lookWhatLacks_29 (fun _ => rfl) ?_
    refine r_g (pc' := 31) (ls' := [some (.ref r0), some (.int x1), some (.int x2)]) (st' := [.int x1, .ref r0]) dX7_lookWhatLacks_30 (fun _ => rfl) ?_
    refine r_ic (v := 2) dX7_lookWhatLacks_31 (by decide) ?_
    obtain ⟨hK, h⟩ := h
    exact r_call (th := false) dX7_lookWhatLacks_32 (fun _ => ex_calV rfl (by decide)) rfl (Nat.le_of_ble_eq_true rfl) (Nat.le_of_ble_eq_true rfl) (Nat.le_of_ble_eq_true rfl) (rcv0 rfl rfl (by decide) hK) rfl rfl rfl (fun q => nomatch q) h
theorem b140_35 {g : Nat → Nat} {C S : Nat} {σ : PS} {Q : Rs → PS → Prop} {r0 : Nat} {x1 : Int32} {x2 : Int32}
    (h : ((3 : Int32) ≤ x2 → WP g C S 140 64 [some (.ref r0), some (.int x1), some (.int x2)] [] σ Q) ∧ (¬ ((3 : Int32) ≤ x2) → (¬ (x2 : Int32) = 0 → (¬ (x2 : Int32) = 1 → WP g C S 140 61 [some (.ref r0), some (.int x1), some (.int x2)] [.int 6, .int x1, .ref r0] σ Q) ∧ (¬ (¬ (x2 : Int32) = 1) → WP g C S 140 61 [some (.ref r0), some (.int x1), some (.int x2)] [.int 4, .int x1, .ref r0] σ Q)) ∧ (¬ (¬ (x2 : Int32) = 0) → WP g C S 140 61 [some (.ref r0), some (.int x1), some (.int x2)] [.int 3, .int x1, .ref r0] σ Q))) :
    WP g C S 140 35 [some (.ref r0), some (.int x1), some (.int x2)] [] σ Q := by
  refine r_g (pc' := 36) (ls' := [some (.ref r0), some (.int x1), some (.int x2)]) (st' := [.int x2]) dX7_lookWhatLacks_35 (fun _ => rfl) ?_
  refine r_ic (v := 3) dX7_lookWhatLacks_36 (by decide) ?_
  obtain ⟨h1, h2⟩ := h
  refine r_icmp (t := 64) dX7_lookWhatLacks_37 (by decide) c_ge (fun c => ?_) (fun c => ?_)
  · have h := h1 c
    exact h
  · have h := h2 c
    refine r_g (pc' := 41) (ls' := [some (.ref r0), some (.int x1), some (.int x2)]) (st' := [.ref r0]) dX7_lookWhatLacks_40 (fun _ => rfl) ?_
    refine r_g (pc' := 42) (ls' := [some (.ref r0), some (.int x1), some (.int x2)]) (st' := [.int x1, .ref r0]) dX7_lookWhatLacks_41 (fun _ => rfl) ?_
    refine r_g (pc' := 43) (ls' := [some (.ref r0), some (.int x1), some (.int x2)]) (st' := [.int x2, .int x1, .ref r0]) dX7_lookWhatLacks_42 (fun _ => rfl) ?_
    obtain ⟨h1, h2⟩ := h
    refine r_if (t := 50) dX7_lookWhatLacks_43 (by decide) c_ne (fun c => ?_) (fun c => ?_)
    · have h := h1 c
      refine r_g (pc' := 51) (ls' := [some (.ref r0), some (.int x1), some (.int x2)]) (st' := [.int x2, .int x1, .ref r0]) dX7_lookWhatLacks_50 (fun _ => rfl) ?_
      refine r_ic (v := 1) dX7_lookWhatLacks_51 (by decide) ?_
      obtain ⟨h1, h2⟩ := h
      refine r_icmp (t := 59) dX7_lookWhatLacks_52 (by decide) c_ne (fun c => ?_) (fun c => ?_)
      · have h := h1 c
        refine r_bi (v := 6) dX7_lookWhatLacks_59 (by decide) ?_
        exact h
      · have h := h2 c
        refine r_ic (v := 4) dX7_lookWhatLacks_55 (by decide) ?_
        refine r_goto (t := 61) dX7_lookWhatLacks_56 (by decide) ?_
        exact h
    · have h := h2 c
      refine r_ic (v := 3) dX7_lookWhatLacks_46 (by decide) ?_
      refine r_goto (t := 61) dX7_lookWhatLacks_47 (by decide) ?_
      exact h
theorem b140_61 {g : Nat → Nat} {C S : Nat} {σ : PS} {Q : Rs → PS → Prop} {l0 : Option Value} {l1 : Option Value} {l2 : Option Value} {u0 : Int32} {u1 : Int32} {w2 : Nat}
    (h : zK σ w2 = 9 ∧ WP g C S 139 0 [some (.ref w2), some (.int u1), some (.int u0)] [] σ (KK g C S 140 64 [l0, l1, l2] [] Q false)) :
    WP g C S 140 61 [l0, l1, l2] [.int u0, .int u1, .ref w2] σ Q := by
  obtain ⟨hK, h⟩ := h
  exact r_call (th := false) dX7_lookWhatLacks_61 (fun _ => ex_calV rfl (by decide)) rfl (Nat.le_of_ble_eq_true rfl) (Nat.le_of_ble_eq_true rfl) (Nat.le_of_ble_eq_true rfl) (rcv0 rfl rfl (by decide) hK) rfl rfl rfl (fun q => nomatch q) h
theorem b140_64 {g : Nat → Nat} {C S : Nat} {σ : PS} {Q : Rs → PS → Prop} {l0 : Option Value} {l1 : Option Value} {l2 : Option Value}
    (h : Q (Sum.inl none) σ) :
    WP g C S 140 64 [l0, l1, l2] [] σ Q := by
  exact r_vret dX7_lookWhatLacks_64 rfl h
theorem b141_0 {g : Nat → Nat} {C S : Nat} {σ : PS} {Q : Rs → PS → Prop} {r0 : Nat} {l1 : Option Value}
    (h : zK σ r0 = 9 ∧ (∀ τ1, τ1 = stI σ r0 0 0 → zK τ1 r0 = 9 ∧ WP g C S 125 0 [some (.ref r0), none, none, none, none] [] τ1 (KK g C S 141 9 [some (.ref r0), l1] [] Q false))) :
    WP g C S 141 0 [some (.ref r0), l1] [] σ Q := by
  refine r_g (pc' := 1) (ls' := [some (.ref r0), l1]) (st' := [.ref r0]) dX7_run_0 (fun _ => rfl) ?_
  refine r_ic (v := 0) dX7_run_1 (by decide) ?_
  obtain ⟨hK, h⟩ := h
  refine r_putI dX7_run_2 rfl (by decide) (Or.inl rfl) rfl (Or.inl rfl) hK ?_
  generalize eτ1 : stI σ r0 0 0 = τ1
  replace h := h _ eτ1.symm
  refine r_g (pc' := 6) (ls' := [some (.ref r0), l1]) (st' := [.ref r0]) dX7_run_5 (fun _ => rfl) ?_
  obtain ⟨hK, h⟩ := h
  exact r_call (th := false) dX7_run_6 (fun _ => ex_calV rfl (by decide)) rfl (Nat.le_of_ble_eq_true rfl) (Nat.le_of_ble_eq_true rfl) (Nat.le_of_ble_eq_true rfl) (rcv0 rfl rfl (by decide) hK) rfl rfl rfl (fun q => nomatch q) h
theorem b141_9 {g : Nat → Nat} {C S : Nat} {σ : PS} {Q : Rs → PS → Prop} {r0 : Nat} {l1 : Option Value}
    (h : WP g C S 141 11 [some (.ref r0), some (.int 0)] [] σ Q) :
    WP g C S 141 9 [some (.ref r0), l1] [] σ Q := by
  refine r_ic (v := 0) dX7_run_9 (by decide) ?_
  refine r_g (pc' := 11) (ls' := [some (.ref r0), some (.int 0)]) (st' := []) dX7_run_10 (fun _ => rfl) ?_
  exact h
theorem b141_11 {g : Nat → Nat} {C S : Nat} {σ : PS} {Q : Rs → PS → Prop} {r0 : Nat} {x1 : Int32}
    (h : zK σ r0 = 9 ∧ ((zI σ r0 25 : Int32) ≤ x1 → zK σ r0 = 9 ∧ WP g C S 131 0 [some (.ref r0), none, none, none, none] [] σ (KK g C S 141 34 [some (.ref r0), some (.int x1)] [] Q false)) ∧ (¬ ((zI σ r0 25 : Int32) ≤ x1) → zK σ r0 = 9 ∧ WP g C S 129 0 [some (.ref r0), some (.int x1), none, none, none] [] σ (KK g C S 141 24 [some (.ref r0), some (.int x1)] [] Q false))) :
    WP g C S 141 11 [some (.ref r0), some (.int x1)] [] σ Q := by
  refine r_g (pc' := 12) (ls' := [some (.ref r0), some (.int x1)]) (st' := [.int x1]) dX7_run_11 (fun _ => rfl) ?_
  refine r_g (pc' := 13) (ls' := [some (.ref r0), some (.int x1)]) (st' := [.ref r0, .int x1]) dX7_run_12 (fun _ => rfl) ?_
  obtain ⟨hK, h⟩ := h
  refine r_getI dX7_run_13 rfl (by decide) rfl hK ?_
  obtain ⟨h1, h2⟩ := h
  refine r_icmp (t := 30) dX7_run_16 (by decide) c_ge (fun c => ?_) (fun c => ?_)
  · have h := h1 c
    refine r_g (pc' := 31) (ls' := [some (.ref r0), some (.int x1)]) (st' := [.ref r0]) dX7_run_30 (fun _ => rfl) ?_
    obtain ⟨hK, h⟩ := h
    exact r_call (th := false) dX7_run_31 (fun _ => ex_calV rfl (by decide)) rfl (Nat.le_of_ble_eq_true rfl) (Nat.le_of_ble_eq_true rfl) (Nat.le_of_ble_eq_true rfl) (rcv0 rfl rfl (by decide) hK) rfl rfl rfl (fun q => nomatch q) h
  · have h := h2 c
    refine r_g (pc' := 20) (ls' := [some (.ref r0), some (.int x1)]) (st' := [.ref r0]) dX7_run_19 (fun _ => rfl) ?_
    refine r_g (pc' := 21) (ls' := [some (.ref r0), some (.int x1)]) (st' := [.int x1, .ref r0]) dX7_run_20 (fun _ => rfl) ?_
    obtain ⟨hK, h⟩ := h
    exact r_call (th := false) dX7_run_21 (fun _ => ex_calV rfl (by decide)) rfl (Nat.le_of_ble_eq_true rfl) (Nat.le_of_ble_eq_true rfl) (Nat.le_of_ble_eq_true rfl) (rcv0 rfl rfl (by decide) hK) rfl rfl rfl (fun q => nomatch q) h
theorem b141_24 {g : Nat → Nat} {C S : Nat} {σ : PS} {Q : Rs → PS → Prop} {r0 : Nat} {x1 : Int32}
    (h : WP g C S 141 11 [some (.ref r0), some (.int (x1 + 1))] [] σ Q) :
    WP g C S 141 24 [some (.ref r0), some (.int x1)] [] σ Q := by
  refine r_inc (v := 1) (ls' := [some (.ref r0), some (.int (x1 + 1))]) dX7_run_24 rfl (Nat.le_of_ble_eq_true rfl) (by decide) rfl ?_
  refine r_goto (t := 11) dX7_run_27 (by decide) ?_
  exact h
theorem b141_34 {g : Nat → Nat} {C S : Nat} {σ : PS} {Q : Rs → PS → Prop} {r0 : Nat} {l1 : Option Value}
    (h : zK σ r0 = 9 ∧ (∀ τ1, τ1 = stI σ r0 32 0 → WP g C S 141 41 [some (.ref r0), some (.int 0)] [] τ1 Q)) :
    WP g C S 141 34 [some (.ref r0), l1] [] σ Q := by
  refine r_g (pc' := 35) (ls' := [some (.ref r0), l1]) (st' := [.ref r0]) dX7_run_34 (fun _ => rfl) ?_
  refine r_ic (v := 0) dX7_run_35 (by decide) ?_
  obtain ⟨hK, h⟩ := h
  refine r_putI dX7_run_36 rfl (by decide) (Or.inl rfl) rfl (Or.inl rfl) hK ?_
  generalize eτ1 : stI σ r0 32 0 = τ1
  replace h := h _ eτ1.symm
  refine r_ic (v := 0) dX7_run_39 (by decide) ?_
  refine r_g (pc' := 41) (ls' := [some (.ref r0), some (.int 0)]) (st' := []) dX7_run_40 (fun _ => rfl) ?_
  exact h
theorem b141_41 {g : Nat → Nat} {C S : Nat} {σ : PS} {Q : Rs → PS → Prop} {r0 : Nat} {x1 : Int32}
    (h : zK σ r0 = 9 ∧ ((zI σ r0 25 : Int32) ≤ x1 → zK σ r0 = 9 ∧ (∀ τ1, τ1 = stI σ r0 24 1 → zK τ1 r0 = 9 ∧ Q (Sum.inl (some (.int (zI τ1 r0 25)))) τ1)) ∧ (¬ ((zI σ r0 25 : Int32) ≤ x1) → zK σ r0 = 9 ∧ WP g C S 138 0 [some (.ref r0), some (.int x1), none, none] [] σ (KK g C S 141 54 [some (.ref r0), some (.int x1)] [] Q false))) :
    WP g C S 141 41 [some (.ref r0), some (.int x1)] [] σ Q := by
  refine r_g (pc' := 42) (ls' := [some (.ref r0), some (.int x1)]) (st' := [.int x1]) dX7_run_41 (fun _ => rfl) ?_
  refine r_g (pc' := 43) (ls' := [some (.ref r0), some (.int x1)]) (st' := [.ref r0, .int x1]) dX7_run_42 (fun _ => rfl) ?_
  obtain ⟨hK, h⟩ := h
  refine r_getI dX7_run_43 rfl (by decide) rfl hK ?_
  obtain ⟨h1, h2⟩ := h
  refine r_icmp (t := 70) dX7_run_46 (by decide) c_ge (fun c => ?_) (fun c => ?_)
  · have h := h1 c
    refine r_g (pc' := 71) (ls' := [some (.ref r0), some (.int x1)]) (st' := [.ref r0]) dX7_run_70 (fun _ => rfl) ?_
    refine r_ic (v := 1) dX7_run_71 (by decide) ?_
    obtain ⟨hK, h⟩ := h
    refine r_putI dX7_run_72 rfl (by decide) (Or.inl rfl) rfl (Or.inr (Or.inr rfl)) hK ?_
    generalize eτ1 : stI σ r0 24 1 = τ1
    replace h := h _ eτ1.symm
    refine r_g (pc' := 76) (ls' := [some (.ref r0), some (.int x1)]) (st' := [.ref r0]) dX7_run_75 (fun _ => rfl) ?_
    obtain ⟨hK, h⟩ := h
    refine r_getI dX7_run_76 rfl (by decide) rfl hK ?_
    exact r_ret dX7_run_79 rfl h
  · have h := h2 c
    refine r_g (pc' := 50) (ls' := [some (.ref r0), some (.int x1)]) (st' := [.ref r0]) dX7_run_49 (fun _ => rfl) ?_
    refine r_g (pc' := 51) (ls' := [some (.ref r0), some (.int x1)]) (st' := [.int x1, .ref r0]) dX7_run_50 (fun _ => rfl) ?_
    obtain ⟨hK, h⟩ := h
    exact r_call (th := false) dX7_run_51 (fun _ => ex_calV rfl (by decide)) rfl (Nat.le_of_ble_eq_true rfl) (Nat.le_of_ble_eq_true rfl) (Nat.le_of_ble_eq_true rfl) (rcv0 rfl rfl (by decide) hK) rfl rfl rfl (fun q => nomatch q) h
theorem b141_54 {g : Nat → Nat} {C S : Nat} {σ : PS} {Q : Rs → PS → Prop} {r0 : Nat} {x1 : Int32}
    (h : zK σ r0 = 9 ∧ ∃ b1, zP σ r0 26 = some b1 ∧ (∃ n2 : Nat, x1 = nI n2 ∧ n2 < 2147483648 ∧ (zK σ b1 = 101 ∨ zK σ b1 = 1002) ∧ n2 < zL σ b1 ∧ (zK σ r0 = 9 ∧ WP g C S 140 0 [some (.ref r0), some (.int (zI σ b1 n2)), none] [] σ (KK g C S 141 64 [some (.ref r0), some (.int x1)] [] Q false)))) :
    WP g C S 141 54 [some (.ref r0), some (.int x1)] [] σ Q := by
  refine r_g (pc' := 55) (ls' := [some (.ref r0), some (.int x1)]) (st' := [.ref r0]) dX7_run_54 (fun _ => rfl) ?_
  refine r_g (pc' := 56) (ls' := [some (.ref r0), some (.int x1)]) (st' := [.ref r0, .ref r0]) dX7_run_55 (fun _ => rfl) ?_
  obtain ⟨hK, b1, hP, h⟩ := h
  refine r_getP dX7_run_56 rfl (by decide) rfl hK hP ?_
  refine r_g (pc' := 60) (ls' := [some (.ref r0), some (.int x1)]) (st' := [.int x1, .ref b1, .ref r0]) dX7_run_59 (fun _ => rfl) ?_
  obtain ⟨n2, hj, hn, hK, hL, h⟩ := h
  refine r_iald dX7_run_60 hj hn hK hL ?_
  obtain ⟨hK, h⟩ := h
  exact r_call (th := false) dX7_run_61 (fun _ => ex_calV rfl (by decide)) rfl (Nat.le_of_ble_eq_true rfl) (Nat.le_of_ble_eq_true rfl) (Nat.le_of_ble_eq_true rfl) (rcv0 rfl rfl (by decide) hK) rfl rfl rfl (fun q => nomatch q) h
theorem b141_64 {g : Nat → Nat} {C S : Nat} {σ : PS} {Q : Rs → PS → Prop} {r0 : Nat} {x1 : Int32}
    (h : WP g C S 141 41 [some (.ref r0), some (.int (x1 + 1))] [] σ Q) :
    WP g C S 141 64 [some (.ref r0), some (.int x1)] [] σ Q := by
  refine r_inc (v := 1) (ls' := [some (.ref r0), some (.int (x1 + 1))]) dX7_run_64 rfl (Nat.le_of_ble_eq_true rfl) (by decide) rfl ?_
  refine r_goto (t := 41) dX7_run_67 (by decide) ?_
  exact h
theorem b142_0 {g : Nat → Nat} {C S : Nat} {σ : PS} {Q : Rs → PS → Prop} {r0 : Nat} {x1 : Int32}
    (h : ((x1 : Int32) < 0 → WP g C S 142 16 [some (.ref r0), some (.int x1)] [] σ Q) ∧ (¬ ((x1 : Int32) < 0) → zK σ r0 = 9 ∧ ((zI σ r0 25 : Int32) ≤ x1 → WP g C S 142 16 [some (.ref r0), some (.int x1)] [] σ Q) ∧ (¬ ((zI σ r0 25 : Int32) ≤ x1) → WP g C S 142 17 [some (.ref r0), some (.int x1)] [.int 1] σ Q))) :
    WP g C S 142 0 [some (.ref r0), some (.int x1)] [] σ Q := by
  refine r_g (pc' := 1) (ls' := [some (.ref r0), some (.int x1)]) (st' := [.int x1]) dX7_isRow_0 (fun _ => rfl) ?_
  obtain ⟨h1, h2⟩ := h
  refine r_if (t := 16) dX7_isRow_1 (by decide) c_lt (fun c => ?_) (fun c => ?_)
  · have h := h1 c
    exact h
  · have h := h2 c
    refine r_g (pc' := 5) (ls' := [some (.ref r0), some (.int x1)]) (st' := [.int x1]) dX7_isRow_4 (fun _ => rfl) ?_
    refine r_g (pc' := 6) (ls' := [some (.ref r0), some (.int x1)]) (st' := [.ref r0, .int x1]) dX7_isRow_5 (fun _ => rfl) ?_
    obtain ⟨hK, h⟩ := h
    refine r_getI dX7_isRow_6 rfl (by decide) rfl hK ?_
    obtain ⟨h1, h2⟩ := h
    refine r_icmp (t := 16) dX7_isRow_9 (by decide) c_ge (fun c => ?_) (fun c => ?_)
    · have h := h1 c
      exact h
    · have h := h2 c
      refine r_ic (v := 1) dX7_isRow_12 (by decide) ?_
      refine r_goto (t := 17) dX7_isRow_13 (by decide) ?_
      exact h
theorem b142_16 {g : Nat → Nat} {C S : Nat} {σ : PS} {Q : Rs → PS → Prop} {l0 : Option Value} {l1 : Option Value}
    (h : WP g C S 142 17 [l0, l1] [.int 0] σ Q) :
    WP g C S 142 16 [l0, l1] [] σ Q := by
  refine r_ic (v := 0) dX7_isRow_16 (by decide) ?_
  exact h
theorem b142_17 {g : Nat → Nat} {C S : Nat} {σ : PS} {Q : Rs → PS → Prop} {l0 : Option Value} {l1 : Option Value} {u0 : Int32}
    (h : ((u0 : Int32) = 0 ∨ u0 = 1) ∧ Q (Sum.inl (some (.int u0))) σ) :
    WP g C S 142 17 [l0, l1] [.int u0] σ Q := by
  obtain ⟨hn, h⟩ := h
  exact r_ret dX7_isRow_17 (by rcases hn with q | q <;> rw [q] <;> rfl) h
theorem b143_0 {g : Nat → Nat} {C S : Nat} {σ : PS} {Q : Rs → PS → Prop} {r0 : Nat} {x1 : Int32}
    (h : zK σ r0 = 9 ∧ WP g C S 142 0 [some (.ref r0), some (.int x1)] [] σ (KK g C S 143 6 [some (.ref r0), some (.int x1)] [.ref r0] Q false)) :
    WP g C S 143 0 [some (.ref r0), some (.int x1)] [] σ Q := by
  refine r_g (pc' := 1) (ls' := [some (.ref r0), some (.int x1)]) (st' := [.ref r0]) dX7_row_0 (fun _ => rfl) ?_
  refine r_g (pc' := 2) (ls' := [some (.ref r0), some (.int x1)]) (st' := [.ref r0, .ref r0]) dX7_row_1 (fun _ => rfl) ?_
  refine r_g (pc' := 3) (ls' := [some (.ref r0), some (.int x1)]) (st' := [.int x1, .ref r0, .ref r0]) dX7_row_2 (fun _ => rfl) ?_
  obtain ⟨hK, h⟩ := h
  exact r_call (th := false) dX7_row_3 (fun _ => ex_calV rfl (by decide)) rfl (Nat.le_of_ble_eq_true rfl) (Nat.le_of_ble_eq_true rfl) (Nat.le_of_ble_eq_true rfl) (rcv0 rfl rfl (by decide) hK) rfl rfl rfl (fun q => nomatch q) h
theorem b143_6 {g : Nat → Nat} {C S : Nat} {σ : PS} {Q : Rs → PS → Prop} {r0 : Nat} {x1 : Int32} {u0 : Int32} {w1 : Nat}
    (h : ((u0 : Int32) = 0 → WP g C S 143 14 [some (.ref r0), some (.int x1)] [.int 1, .ref w1] σ Q) ∧ (¬ ((u0 : Int32) = 0) → WP g C S 143 14 [some (.ref r0), some (.int x1)] [.int 0, .ref w1] σ Q)) :
    WP g C S 143 6 [some (.ref r0), some (.int x1)] [.int u0, .ref w1] σ Q := by
  obtain ⟨h1, h2⟩ := h
  refine r_if (t := 13) dX7_row_6 (by decide) c_eq (fun c => ?_) (fun c => ?_)
  · have h := h1 c
    refine r_ic (v := 1) dX7_row_13 (by decide) ?_
    exact h
  · have h := h2 c
    refine r_ic (v := 0) dX7_row_9 (by decide) ?_
    refine r_goto (t := 14) dX7_row_10 (by decide) ?_
    exact h
theorem b143_14 {g : Nat → Nat} {C S : Nat} {σ : PS} {Q : Rs → PS → Prop} {r0 : Nat} {x1 : Int32} {u0 : Int32} {w1 : Nat}
    (h : zK σ w1 = 9 ∧ (∀ τ1, τ1 = stI σ w1 0 u0 → zK τ1 r0 = 9 ∧ ((zI τ1 r0 0 : Int32) ≤ 0 → zK τ1 r0 = 9 ∧ ∃ b2, zP τ1 r0 26 = some b2 ∧ (∃ n3 : Nat, x1 = nI n3 ∧ n3 < 2147483648 ∧ (zK τ1 b2 = 101 ∨ zK τ1 b2 = 1002) ∧ n3 < zL τ1 b2 ∧ (WP g C S 143 34 [some (.ref r0), some (.int x1)] [.int (zI τ1 b2 n3)] τ1 Q))) ∧ (¬ ((zI τ1 r0 0 : Int32) ≤ 0) → WP g C S 143 34 [some (.ref r0), some (.int x1)] [.int 0] τ1 Q))) :
    WP g C S 143 14 [some (.ref r0), some (.int x1)] [.int u0, .ref w1] σ Q := by
  obtain ⟨hK, h⟩ := h
  refine r_putI dX7_row_14 rfl (by decide) (Or.inl rfl) rfl (Or.inl rfl) hK ?_
  generalize eτ1 : stI σ w1 0 u0 = τ1
  replace h := h _ eτ1.symm
  refine r_g (pc' := 18) (ls' := [some (.ref r0), some (.int x1)]) (st' := [.ref r0]) dX7_row_17 (fun _ => rfl) ?_
  obtain ⟨hK, h⟩ := h
  refine r_getI dX7_row_18 rfl (by decide) rfl hK ?_
  obtain ⟨h1, h2⟩ := h
  refine r_if (t := 28) dX7_row_21 (by decide) c_le (fun c => ?_) (fun c => ?_)
  · have h := h1 c
    refine r_g (pc' := 29) (ls' := [some (.ref r0), some (.int x1)]) (st' := [.ref r0]) dX7_row_28 (fun _ => rfl) ?_
    obtain ⟨hK, b2, hP, h⟩ := h
    refine r_getP dX7_row_29 rfl (by decide) rfl hK hP ?_
    refine r_g (pc' := 33) (ls' := [some (.ref r0), some (.int x1)]) (st' := [.int x1, .ref b2]) dX7_row_32 (fun _ => rfl) ?_
    obtain ⟨n3, hj, hn, hK, hL, h⟩ := h
    refine r_iald dX7_row_33 hj hn hK hL ?_
    exact h
  · have h := h2 c
    refine r_ic (v := 0) dX7_row_24 (by decide) ?_
    refine r_goto (t := 34) dX7_row_25 (by decide) ?_
    exact h
theorem b143_34 {g : Nat → Nat} {C S : Nat} {σ : PS} {Q : Rs → PS → Prop} {l0 : Option Value} {l1 : Option Value} {u0 : Int32}
    (h : Q (Sum.inl (some (.int u0))) σ) :
    WP g C S 143 34 [l0, l1] [.int u0] σ Q := by
  exact r_ret dX7_row_34 rfl h
theorem b144_0 {g : Nat → Nat} {C S : Nat} {σ : PS} {Q : Rs → PS → Prop} {r0 : Nat} {x1 : Int32}
    (h : zK σ r0 = 9 ∧ WP g C S 142 0 [some (.ref r0), some (.int x1)] [] σ (KK g C S 144 6 [some (.ref r0), some (.int x1)] [.ref r0] Q false)) :
    WP g C S 144 0 [some (.ref r0), some (.int x1)] [] σ Q := by
  refine r_g (pc' := 1) (ls' := [some (.ref r0), some (.int x1)]) (st' := [.ref r0]) dX7_letter_0 (fun _ => rfl) ?_
  refine r_g (pc' := 2) (ls' := [some (.ref r0), some (.int x1)]) (st' := [.ref r0, .ref r0]) dX7_letter_1 (fun _ => rfl) ?_
  refine r_g (pc' := 3) (ls' := [some (.ref r0), some (.int x1)]) (st' := [.int x1, .ref r0, .ref r0]) dX7_letter_2 (fun _ => rfl) ?_
  obtain ⟨hK, h⟩ := h
  exact r_call (th := false) dX7_letter_3 (fun _ => ex_calV rfl (by decide)) rfl (Nat.le_of_ble_eq_true rfl) (Nat.le_of_ble_eq_true rfl) (Nat.le_of_ble_eq_true rfl) (rcv0 rfl rfl (by decide) hK) rfl rfl rfl (fun q => nomatch q) h
theorem b144_6 {g : Nat → Nat} {C S : Nat} {σ : PS} {Q : Rs → PS → Prop} {r0 : Nat} {x1 : Int32} {u0 : Int32} {w1 : Nat}
    (h : ((u0 : Int32) = 0 → WP g C S 144 14 [some (.ref r0), some (.int x1)] [.int 1, .ref w1] σ Q) ∧ (¬ ((u0 : Int32) = 0) → WP g C S 144 14 [some (.ref r0), some (.int x1)] [.int 0, .ref w1] σ Q)) :
    WP g C S 144 6 [some (.ref r0), some (.int x1)] [.int u0, .ref w1] σ Q := by
  obtain ⟨h1, h2⟩ := h
  refine r_if (t := 13) dX7_letter_6 (by decide) c_eq (fun c => ?_) (fun c => ?_)
  · have h := h1 c
    refine r_ic (v := 1) dX7_letter_13 (by decide) ?_
    exact h
  · have h := h2 c
    refine r_ic (v := 0) dX7_letter_9 (by decide) ?_
    refine r_goto (t := 14) dX7_letter_10 (by decide) ?_
    exact h
theorem b144_14 {g : Nat → Nat} {C S : Nat} {σ : PS} {Q : Rs → PS → Prop} {r0 : Nat} {x1 : Int32} {u0 : Int32} {w1 : Nat}
    (h : zK σ w1 = 9 ∧ (∀ τ1, τ1 = stI σ w1 0 u0 → zK τ1 r0 = 9 ∧ ((zI τ1 r0 0 : Int32) ≤ 0 → zK τ1 r0 = 9 ∧ ∃ b2, zP τ1 r0 27 = some b2 ∧ (∃ n3 : Nat, x1 = nI n3 ∧ n3 < 2147483648 ∧ (zK τ1 b2 = 101 ∨ zK τ1 b2 = 1002) ∧ n3 < zL τ1 b2 ∧ (WP g C S 144 34 [some (.ref r0), some (.int x1)] [.int (zI τ1 b2 n3)] τ1 Q))) ∧ (¬ ((zI τ1 r0 0 : Int32) ≤ 0) → WP g C S 144 34 [some (.ref r0), some (.int x1)] [.int 0] τ1 Q))) :
    WP g C S 144 14 [some (.ref r0), some (.int x1)] [.int u0, .ref w1] σ Q := by
  obtain ⟨hK, h⟩ := h
  refine r_putI dX7_letter_14 rfl (by decide) (Or.inl rfl) rfl (Or.inl rfl) hK ?_
  generalize eτ1 : stI σ w1 0 u0 = τ1
  replace h := h _ eτ1.symm
  refine r_g (pc' := 18) (ls' := [some (.ref r0), some (.int x1)]) (st' := [.ref r0]) dX7_letter_17 (fun _ => rfl) ?_
  obtain ⟨hK, h⟩ := h
  refine r_getI dX7_letter_18 rfl (by decide) rfl hK ?_
  obtain ⟨h1, h2⟩ := h
  refine r_if (t := 28) dX7_letter_21 (by decide) c_le (fun c => ?_) (fun c => ?_)
  · have h := h1 c
    refine r_g (pc' := 29) (ls' := [some (.ref r0), some (.int x1)]) (st' := [.ref r0]) dX7_letter_28 (fun _ => rfl) ?_
    obtain ⟨hK, b2, hP, h⟩ := h
    refine r_getP dX7_letter_29 rfl (by decide) rfl hK hP ?_
    refine r_g (pc' := 33) (ls' := [some (.ref r0), some (.int x1)]) (st' := [.int x1, .ref b2]) dX7_letter_32 (fun _ => rfl) ?_
    obtain ⟨n3, hj, hn, hK, hL, h⟩ := h
    refine r_iald dX7_letter_33 hj hn hK hL ?_
    exact h
  · have h := h2 c
    refine r_ic (v := 0) dX7_letter_24 (by decide) ?_
    refine r_goto (t := 34) dX7_letter_25 (by decide) ?_
    exact h
theorem b144_34 {g : Nat → Nat} {C S : Nat} {σ : PS} {Q : Rs → PS → Prop} {l0 : Option Value} {l1 : Option Value} {u0 : Int32}
    (h : Q (Sum.inl (some (.int u0))) σ) :
    WP g C S 144 34 [l0, l1] [.int u0] σ Q := by
  exact r_ret dX7_letter_34 rfl h
theorem b145_0 {g : Nat → Nat} {C S : Nat} {σ : PS} {Q : Rs → PS → Prop} {r0 : Nat} {x1 : Int32} {x2 : Int32} {x3 : Int32}
    (h : zK σ r0 = 9 ∧ WP g C S 93 0 [some (.ref r0), some (.int x1)] [] σ (KK g C S 145 6 [some (.ref r0), some (.int x1), some (.int x2), some (.int x3)] [.ref r0] Q false)) :
    WP g C S 145 0 [some (.ref r0), some (.int x1), some (.int x2), some (.int x3)] [] σ Q := by
  refine r_g (pc' := 1) (ls' := [some (.ref r0), some (.int x1), some (.int x2), some (.int x3)]) (st' := [.ref r0]) dX7_initials_0 (fun _ => rfl) ?_
  refine r_g (pc' := 2) (ls' := [some (.ref r0), some (.int x1), some (.int x2), some (.int x3)]) (st' := [.ref r0, .ref r0]) dX7_initials_1 (fun _ => rfl) ?_
  refine r_g (pc' := 3) (ls' := [some (.ref r0), some (.int x1), some (.int x2), some (.int x3)]) (st' := [.int x1, .ref r0, .ref r0]) dX7_initials_2 (fun _ => rfl) ?_
  obtain ⟨hK, h⟩ := h
  exact r_call (th := false) dX7_initials_3 (fun _ => ex_calV rfl (by decide)) rfl (Nat.le_of_ble_eq_true rfl) (Nat.le_of_ble_eq_true rfl) (Nat.le_of_ble_eq_true rfl) (rcv0 rfl rfl (by decide) hK) rfl rfl rfl (fun q => nomatch q) h
theorem b145_6 {g : Nat → Nat} {C S : Nat} {σ : PS} {Q : Rs → PS → Prop} {r0 : Nat} {x1 : Int32} {x2 : Int32} {x3 : Int32} {u0 : Int32} {w1 : Nat}
    (h : ((u0 : Int32) = 0 → WP g C S 145 14 [some (.ref r0), some (.int x1), some (.int x2), some (.int x3)] [.int 1, .ref w1] σ Q) ∧ (¬ ((u0 : Int32) = 0) → WP g C S 145 14 [some (.ref r0), some (.int x1), some (.int x2), some (.int x3)] [.int 0, .ref w1] σ Q)) :
    WP g C S 145 6 [some (.ref r0), some (.int x1), some (.int x2), some (.int x3)] [.int u0, .ref w1] σ Q := by
  obtain ⟨h1, h2⟩ := h
  refine r_if (t := 13) dX7_initials_6 (by decide) c_eq (fun c => ?_) (fun c => ?_)
  · have h := h1 c
    refine r_ic (v := 1) dX7_initials_13 (by decide) ?_
    exact h
  · have h := h2 c
    refine r_ic (v := 0) dX7_initials_9 (by decide) ?_
    refine r_goto (t := 14) dX7_initials_10 (by decide) ?_
    exact h
theorem b145_14 {g : Nat → Nat} {C S : Nat} {σ : PS} {Q : Rs → PS → Prop} {r0 : Nat} {x1 : Int32} {x2 : Int32} {x3 : Int32} {u0 : Int32} {w1 : Nat}
    (h : zK σ w1 = 9 ∧ (∀ τ1, τ1 = stI σ w1 0 u0 → zK τ1 r0 = 9 ∧ ((zI τ1 r0 0 : Int32) ≤ 0 → zK τ1 r0 = 9 ∧ WP g C S 110 0 [some (.ref r0), some (.int 0), some (.int x1), none, none, none, none, none, none, none, none, none, none, none] [] τ1 (KK g C S 145 32 [some (.ref r0), some (.int x1), some (.int x2), some (.int x3)] [] Q false)) ∧ (¬ ((zI τ1 r0 0 : Int32) ≤ 0) → Q (Sum.inl (some (.int 0))) τ1))) :
    WP g C S 145 14 [some (.ref r0), some (.int x1), some (.int x2), some (.int x3)] [.int u0, .ref w1] σ Q := by
  obtain ⟨hK, h⟩ := h
  refine r_putI dX7_initials_14 rfl (by decide) (Or.inl rfl) rfl (Or.inl rfl) hK ?_
  generalize eτ1 : stI σ w1 0 u0 = τ1
  replace h := h _ eτ1.symm
  refine r_g (pc' := 18) (ls' := [some (.ref r0), some (.int x1), some (.int x2), some (.int x3)]) (st' := [.ref r0]) dX7_initials_17 (fun _ => rfl) ?_
  obtain ⟨hK, h⟩ := h
  refine r_getI dX7_initials_18 rfl (by decide) rfl hK ?_
  obtain ⟨h1, h2⟩ := h
  refine r_if (t := 26) dX7_initials_21 (by decide) c_le (fun c => ?_) (fun c => ?_)
  · have h := h1 c
    refine r_g (pc' := 27) (ls' := [some (.ref r0), some (.int x1), some (.int x2), some (.int x3)]) (st' := [.ref r0]) dX7_initials_26 (fun _ => rfl) ?_
    refine r_ic (v := 0) dX7_initials_27 (by decide) ?_
    refine r_g (pc' := 29) (ls' := [some (.ref r0), some (.int x1), some (.int x2), some (.int x3)]) (st' := [.int x1, .int 0, .ref r0]) dX7_initials_28 (fun _ => rfl) ?_
    obtain ⟨hK, h⟩ := h
    exact r_call (th := false) dX7_initials_29 (fun _ => ex_calV rfl (by decide)) rfl (Nat.le_of_ble_eq_true rfl) (Nat.le_of_ble_eq_true rfl) (Nat.le_of_ble_eq_true rfl) (rcv0 rfl rfl (by decide) hK) rfl rfl rfl (fun q => nomatch q) h
  · have h := h2 c
    refine r_ic (v := 0) dX7_initials_24 (by decide) ?_
    exact r_ret dX7_initials_25 rfl h
theorem b145_32 {g : Nat → Nat} {C S : Nat} {σ : PS} {Q : Rs → PS → Prop} {r0 : Nat} {l1 : Option Value} {x2 : Int32} {x3 : Int32}
    (h : ((x2 : Int32) < 0 → WP g C S 145 47 [some (.ref r0), l1, some (.int x2), some (.int x3)] [.ref r0] σ Q) ∧ (¬ ((x2 : Int32) < 0) → zK σ r0 = 9 ∧ ∃ b1, zP σ r0 19 = some b1 ∧ (∃ n2 : Nat, 0 = nI n2 ∧ n2 < 2147483648 ∧ (zK σ b1 = 101 ∨ zK σ b1 = 1002) ∧ n2 < zL σ b1 ∧ (((x2 : Int32) < (zI σ b1 n2) → WP g C S 145 52 [some (.ref r0), l1, some (.int x2), some (.int x3)] [.int 0, .ref r0] σ Q) ∧ (¬ ((x2 : Int32) < (zI σ b1 n2)) → WP g C S 145 47 [some (.ref r0), l1, some (.int x2), some (.int x3)] [.ref r0] σ Q))))) :
    WP g C S 145 32 [some (.ref r0), l1, some (.int x2), some (.int x3)] [] σ Q := by
  refine r_g (pc' := 33) (ls' := [some (.ref r0), l1, some (.int x2), some (.int x3)]) (st' := [.ref r0]) dX7_initials_32 (fun _ => rfl) ?_
  refine r_g (pc' := 34) (ls' := [some (.ref r0), l1, some (.int x2), some (.int x3)]) (st' := [.int x2, .ref r0]) dX7_initials_33 (fun _ => rfl) ?_
  obtain ⟨h1, h2⟩ := h
  refine r_if (t := 47) dX7_initials_34 (by decide) c_lt (fun c => ?_) (fun c => ?_)
  · have h := h1 c
    exact h
  · have h := h2 c
    refine r_g (pc' := 38) (ls' := [some (.ref r0), l1, some (.int x2), some (.int x3)]) (st' := [.int x2, .ref r0]) dX7_initials_37 (fun _ => rfl) ?_
    refine r_g (pc' := 39) (ls' := [some (.ref r0), l1, some (.int x2), some (.int x3)]) (st' := [.ref r0, .int x2, .ref r0]) dX7_initials_38 (fun _ => rfl) ?_
    obtain ⟨hK, b1, hP, h⟩ := h
    refine r_getP dX7_initials_39 rfl (by decide) rfl hK hP ?_
    refine r_ic (v := 0) dX7_initials_42 (by decide) ?_
    obtain ⟨n2, hj, hn, hK, hL, h⟩ := h
    refine r_iald dX7_initials_43 hj hn hK hL ?_
    obtain ⟨h1, h2⟩ := h
    refine r_icmp (t := 51) dX7_initials_44 (by decide) c_lt (fun c => ?_) (fun c => ?_)
    · have h := h1 c
      refine r_ic (v := 0) dX7_initials_51 (by decide) ?_
      exact h
    · have h := h2 c
      exact h
theorem b145_47 {g : Nat → Nat} {C S : Nat} {σ : PS} {Q : Rs → PS → Prop} {r0 : Nat} {l1 : Option Value} {x2 : Int32} {x3 : Int32} {w0 : Nat}
    (h : WP g C S 145 52 [some (.ref r0), l1, some (.int x2), some (.int x3)] [.int 2, .ref w0] σ Q) :
    WP g C S 145 47 [some (.ref r0), l1, some (.int x2), some (.int x3)] [.ref w0] σ Q := by
  refine r_ic (v := 2) dX7_initials_47 (by decide) ?_
  refine r_goto (t := 52) dX7_initials_48 (by decide) ?_
  exact h
theorem b145_52 {g : Nat → Nat} {C S : Nat} {σ : PS} {Q : Rs → PS → Prop} {r0 : Nat} {l1 : Option Value} {x2 : Int32} {x3 : Int32} {u0 : Int32} {w1 : Nat}
    (h : zK σ w1 = 9 ∧ (∀ τ1, τ1 = stI σ w1 0 u0 → zK τ1 r0 = 9 ∧ ((zI τ1 r0 0 : Int32) ≤ 0 → zK τ1 r0 = 9 ∧ (∀ τ2, τ2 = stI τ1 r0 21 0 → zK τ2 r0 = 9 ∧ WP g C S 118 0 [some (.ref r0), some (.int 0), some (.int x2), none, none] [] τ2 (KK g C S 145 75 [some (.ref r0), l1, some (.int x2), some (.int x3)] [] Q false))) ∧ (¬ ((zI τ1 r0 0 : Int32) ≤ 0) → Q (Sum.inl (some (.int 0))) τ1))) :
    WP g C S 145 52 [some (.ref r0), l1, some (.int x2), some (.int x3)] [.int u0, .ref w1] σ Q := by
  obtain ⟨hK, h⟩ := h
  refine r_putI dX7_initials_52 rfl (by decide) (Or.inl rfl) rfl (Or.inl rfl) hK ?_
  generalize eτ1 : stI σ w1 0 u0 = τ1
  replace h := h _ eτ1.symm
  refine r_g (pc' := 56) (ls' := [some (.ref r0), l1, some (.int x2), some (.int x3)]) (st' := [.ref r0]) dX7_initials_55 (fun _ => rfl) ?_
  obtain ⟨hK, h⟩ := h
  refine r_getI dX7_initials_56 rfl (by decide) rfl hK ?_
  obtain ⟨h1, h2⟩ := h
  refine r_if (t := 64) dX7_initials_59 (by decide) c_le (fun c => ?_) (fun c => ?_)
  · have h := h1 c
    refine r_g (pc' := 65) (ls' := [some (.ref r0), l1, some (.int x2), some (.int x3)]) (st' := [.ref r0]) dX7_initials_64 (fun _ => rfl) ?_
    refine r_ic (v := 0) dX7_initials_65 (by decide) ?_
    obtain ⟨hK, h⟩ := h
    refine r_putI dX7_initials_66 rfl (by decide) (Or.inl rfl) rfl (Or.inl rfl) hK ?_
    generalize eτ2 : stI τ1 r0 21 0 = τ2
    replace h := h _ eτ2.symm
    refine r_g (pc' := 70) (ls' := [some (.ref r0), l1, some (.int x2), some (.int x3)]) (st' := [.ref r0]) dX7_initials_69 (fun _ => rfl) ?_
    refine r_ic (v := 0) dX7_initials_70 (by decide) ?_
    refine r_g (pc' := 72) (ls' := [some (.ref r0), l1, some (.int x2), some (.int x3)]) (st' := [.int x2, .int 0, .ref r0]) dX7_initials_71 (fun _ => rfl) ?_
    obtain ⟨hK, h⟩ := h
    exact r_call (th := false) dX7_initials_72 (fun _ => ex_calV rfl (by decide)) rfl (Nat.le_of_ble_eq_true rfl) (Nat.le_of_ble_eq_true rfl) (Nat.le_of_ble_eq_true rfl) (rcv0 rfl rfl (by decide) hK) rfl rfl rfl (fun q => nomatch q) h
  · have h := h2 c
    refine r_ic (v := 0) dX7_initials_62 (by decide) ?_
    exact r_ret dX7_initials_63 rfl h
theorem b145_75 {g : Nat → Nat} {C S : Nat} {σ : PS} {Q : Rs → PS → Prop} {r0 : Nat} {l1 : Option Value} {l2 : Option Value} {x3 : Int32}
    (h : ((x3 : Int32) < (-1) → WP g C S 145 89 [some (.ref r0), l1, l2, some (.int x3)] [.ref r0] σ Q) ∧ (¬ ((x3 : Int32) < (-1)) → zK σ r0 = 9 ∧ ((x3 : Int32) < (zI σ r0 21) → WP g C S 145 94 [some (.ref r0), l1, l2, some (.int x3)] [.int 0, .ref r0] σ Q) ∧ (¬ ((x3 : Int32) < (zI σ r0 21)) → WP g C S 145 89 [some (.ref r0), l1, l2, some (.int x3)] [.ref r0] σ Q))) :
    WP g C S 145 75 [some (.ref r0), l1, l2, some (.int x3)] [] σ Q := by
  refine r_g (pc' := 76) (ls' := [some (.ref r0), l1, l2, some (.int x3)]) (st' := [.ref r0]) dX7_initials_75 (fun _ => rfl) ?_
  refine r_g (pc' := 77) (ls' := [some (.ref r0), l1, l2, some (.int x3)]) (st' := [.int x3, .ref r0]) dX7_initials_76 (fun _ => rfl) ?_
  refine r_ic (v := -1) dX7_initials_77 (by decide) ?_
  obtain ⟨h1, h2⟩ := h
  refine r_icmp (t := 89) dX7_initials_78 (by decide) c_lt (fun c => ?_) (fun c => ?_)
  · have h := h1 c
    exact h
  · have h := h2 c
    refine r_g (pc' := 82) (ls' := [some (.ref r0), l1, l2, some (.int x3)]) (st' := [.int x3, .ref r0]) dX7_initials_81 (fun _ => rfl) ?_
    refine r_g (pc' := 83) (ls' := [some (.ref r0), l1, l2, some (.int x3)]) (st' := [.ref r0, .int x3, .ref r0]) dX7_initials_82 (fun _ => rfl) ?_
    obtain ⟨hK, h⟩ := h
    refine r_getI dX7_initials_83 rfl (by decide) rfl hK ?_
    obtain ⟨h1, h2⟩ := h
    refine r_icmp (t := 93) dX7_initials_86 (by decide) c_lt (fun c => ?_) (fun c => ?_)
    · have h := h1 c
      refine r_ic (v := 0) dX7_initials_93 (by decide) ?_
      exact h
    · have h := h2 c
      exact h
theorem b145_89 {g : Nat → Nat} {C S : Nat} {σ : PS} {Q : Rs → PS → Prop} {r0 : Nat} {l1 : Option Value} {l2 : Option Value} {x3 : Int32} {w0 : Nat}
    (h : WP g C S 145 94 [some (.ref r0), l1, l2, some (.int x3)] [.int 2, .ref w0] σ Q) :
    WP g C S 145 89 [some (.ref r0), l1, l2, some (.int x3)] [.ref w0] σ Q := by
  refine r_ic (v := 2) dX7_initials_89 (by decide) ?_
  refine r_goto (t := 94) dX7_initials_90 (by decide) ?_
  exact h
theorem b145_94 {g : Nat → Nat} {C S : Nat} {σ : PS} {Q : Rs → PS → Prop} {r0 : Nat} {l1 : Option Value} {l2 : Option Value} {x3 : Int32} {u0 : Int32} {w1 : Nat}
    (h : zK σ w1 = 9 ∧ (∀ τ1, τ1 = stI σ w1 0 u0 → zK τ1 r0 = 9 ∧ ((zI τ1 r0 0 : Int32) ≤ 0 → (¬ (x3 : Int32) = (-1) → zK τ1 r0 = 9 ∧ ∃ b2, zP τ1 r0 20 = some b2 ∧ (∃ n3 : Nat, x3 = nI n3 ∧ n3 < 2147483648 ∧ (zK τ1 b2 = 101 ∨ zK τ1 b2 = 1002) ∧ n3 < zL τ1 b2 ∧ (WP g C S 145 126 [some (.ref r0), l1, l2, some (.int x3)] [.int (zI τ1 b2 n3)] τ1 Q))) ∧ (¬ (¬ (x3 : Int32) = (-1)) → zK τ1 r0 = 9 ∧ WP g C S 145 126 [some (.ref r0), l1, l2, some (.int x3)] [.int (zI τ1 r0 21)] τ1 Q)) ∧ (¬ ((zI τ1 r0 0 : Int32) ≤ 0) → WP g C S 145 126 [some (.ref r0), l1, l2, some (.int x3)] [.int 0] τ1 Q))) :
    WP g C S 145 94 [some (.ref r0), l1, l2, some (.int x3)] [.int u0, .ref w1] σ Q := by
  obtain ⟨hK, h⟩ := h
  refine r_putI dX7_initials_94 rfl (by decide) (Or.inl rfl) rfl (Or.inl rfl) hK ?_
  generalize eτ1 : stI σ w1 0 u0 = τ1
  replace h := h _ eτ1.symm
  refine r_g (pc' := 98) (ls' := [some (.ref r0), l1, l2, some (.int x3)]) (st' := [.ref r0]) dX7_initials_97 (fun _ => rfl) ?_
  obtain ⟨hK, h⟩ := h
  refine r_getI dX7_initials_98 rfl (by decide) rfl hK ?_
  obtain ⟨h1, h2⟩ := h
  refine r_if (t := 108) dX7_initials_101 (by decide) c_le (fun c => ?_) (fun c => ?_)
  · have h := h1 c
    refine r_g (pc' := 109) (ls' := [some (.ref r0), l1, l2, some (.int x3)]) (st' := [.int x3]) dX7_initials_108 (fun _ => rfl) ?_
    refine r_ic (v := -1) dX7_initials_109 (by decide) ?_
    obtain ⟨h1, h2⟩ := h
    refine r_icmp (t := 120) dX7_initials_110 (by decide) c_ne (fun c => ?_) (fun c => ?_)
    · have h := h1 c
      refine r_g (pc' := 121) (ls' := [some (.ref r0), l1, l2, some (.int x3)]) (st' := [.ref r0]) dX7_initials_120 (fun _ => rfl) ?_
      obtain ⟨hK, b2, hP, h⟩ := h
      refine r_getP dX7_initials_121 rfl (by decide) rfl hK hP ?_
      refine r_g (pc' := 125) (ls' := [some (.ref r0), l1, l2, some (.int x3)]) (st' := [.int x3, .ref b2]) dX7_initials_124 (fun _ => rfl) ?_
      obtain ⟨n3, hj, hn, hK, hL, h⟩ := h
      refine r_iald dX7_initials_125 hj hn hK hL ?_
      exact h
    · have h := h2 c
      refine r_g (pc' := 114) (ls' := [some (.ref r0), l1, l2, some (.int x3)]) (st' := [.ref r0]) dX7_initials_113 (fun _ => rfl) ?_
      obtain ⟨hK, h⟩ := h
      refine r_getI dX7_initials_114 rfl (by decide) rfl hK ?_
      refine r_goto (t := 126) dX7_initials_117 (by decide) ?_
      exact h
  · have h := h2 c
    refine r_ic (v := 0) dX7_initials_104 (by decide) ?_
    refine r_goto (t := 126) dX7_initials_105 (by decide) ?_
    exact h
theorem b145_126 {g : Nat → Nat} {C S : Nat} {σ : PS} {Q : Rs → PS → Prop} {l0 : Option Value} {l1 : Option Value} {l2 : Option Value} {l3 : Option Value} {u0 : Int32}
    (h : Q (Sum.inl (some (.int u0))) σ) :
    WP g C S 145 126 [l0, l1, l2, l3] [.int u0] σ Q := by
  exact r_ret dX7_initials_126 rfl h
theorem b146_0 {g : Nat → Nat} {C S : Nat} {σ : PS} {Q : Rs → PS → Prop} {r0 : Nat} {x1 : Int32} {x2 : Int32}
    (h : zK σ r0 = 9 ∧ (∀ τ1, τ1 = stI σ r0 0 0 → (¬ (x1 : Int32) = (-1) → ((x1 : Int32) < 0 → WP g C S 146 37 [some (.ref r0), some (.int x1), some (.int x2)] [.ref r0] τ1 Q) ∧ (¬ ((x1 : Int32) < 0) → zK τ1 r0 = 9 ∧ ((zI τ1 r0 32 : Int32) ≤ x1 → WP g C S 146 37 [some (.ref r0), some (.int x1), some (.int x2)] [.ref r0] τ1 Q) ∧ (¬ ((zI τ1 r0 32 : Int32) ≤ x1) → ((x2 : Int32) < 0 → WP g C S 146 37 [some (.ref r0), some (.int x1), some (.int x2)] [.ref r0] τ1 Q) ∧ (¬ ((x2 : Int32) < 0) → ((x2 : Int32) ≤ 1 → WP g C S 146 42 [some (.ref r0), some (.int x1), some (.int x2)] [.int 0, .ref r0] τ1 Q) ∧ (¬ ((x2 : Int32) ≤ 1) → WP g C S 146 37 [some (.ref r0), some (.int x1), some (.int x2)] [.ref r0] τ1 Q))))) ∧ (¬ (¬ (x1 : Int32) = (-1)) → zK τ1 r0 = 9 ∧ Q (Sum.inl (some (.int (zI τ1 r0 32)))) τ1))) :
    WP g C S 146 0 [some (.ref r0), some (.int x1), some (.int x2)] [] σ Q := by
  refine r_g (pc' := 1) (ls' := [some (.ref r0), some (.int x1), some (.int x2)]) (st' := [.ref r0]) dX7_missing_0 (fun _ => rfl) ?_
  refine r_ic (v := 0) dX7_missing_1 (by decide) ?_
  obtain ⟨hK, h⟩ := h
  refine r_putI dX7_missing_2 rfl (by decide) (Or.inl rfl) rfl (Or.inl rfl) hK ?_
  generalize eτ1 : stI σ r0 0 0 = τ1
  replace h := h _ eτ1.symm
  refine r_g (pc' := 6) (ls' := [some (.ref r0), some (.int x1), some (.int x2)]) (st' := [.int x1]) dX7_missing_5 (fun _ => rfl) ?_
  refine r_ic (v := -1) dX7_missing_6 (by decide) ?_
  obtain ⟨h1, h2⟩ := h
  refine r_icmp (t := 15) dX7_missing_7 (by decide) c_ne (fun c => ?_) (fun c => ?_)
  · have h := h1 c
    refine r_g (pc' := 16) (ls' := [some (.ref r0), some (.int x1), some (.int x2)]) (st' := [.ref r0]) dX7_missing_15 (fun _ => rfl) ?_
    refine r_g (pc' := 17) (ls' := [some (.ref r0), some (.int x1), some (.int x2)]) (st' := [.int x1, .ref r0]) dX7_missing_16 (fun _ => rfl) ?_
    obtain ⟨h1, h2⟩ := h
    refine r_if (t := 37) dX7_missing_17 (by decide) c_lt (fun c => ?_) (fun c => ?_)
    · have h := h1 c
      exact h
    · have h := h2 c
      refine r_g (pc' := 21) (ls' := [some (.ref r0), some (.int x1), some (.int x2)]) (st' := [.int x1, .ref r0]) dX7_missing_20 (fun _ => rfl) ?_
      refine r_g (pc' := 22) (ls' := [some (.ref r0), some (.int x1), some (.int x2)]) (st' := [.ref r0, .int x1, .ref r0]) dX7_missing_21 (fun _ => rfl) ?_
      obtain ⟨hK, h⟩ := h
      refine r_getI dX7_missing_22 rfl (by decide) rfl hK ?_
      obtain ⟨h1, h2⟩ := h
      refine r_icmp (t := 37) dX7_missing_25 (by decide) c_ge (fun c => ?_) (fun c => ?_)
      · have h := h1 c
        exact h
      · have h := h2 c
        refine r_g (pc' := 29) (ls' := [some (.ref r0), some (.int x1), some (.int x2)]) (st' := [.int x2, .ref r0]) dX7_missing_28 (fun _ => rfl) ?_
        obtain ⟨h1, h2⟩ := h
        refine r_if (t := 37) dX7_missing_29 (by decide) c_lt (fun c => ?_) (fun c => ?_)
        · have h := h1 c
          exact h
        · have h := h2 c
          refine r_g (pc' := 33) (ls' := [some (.ref r0), some (.int x1), some (.int x2)]) (st' := [.int x2, .ref r0]) dX7_missing_32 (fun _ => rfl) ?_
          refine r_ic (v := 1) dX7_missing_33 (by decide) ?_
          obtain ⟨h1, h2⟩ := h
          refine r_icmp (t := 41) dX7_missing_34 (by decide) c_le (fun c => ?_) (fun c => ?_)
          · have h := h1 c
            refine r_ic (v := 0) dX7_missing_41 (by decide) ?_
            exact h
          · have h := h2 c
            exact h
  · have h := h2 c
    refine r_g (pc' := 11) (ls' := [some (.ref r0), some (.int x1), some (.int x2)]) (st' := [.ref r0]) dX7_missing_10 (fun _ => rfl) ?_
    obtain ⟨hK, h⟩ := h
    refine r_getI dX7_missing_11 rfl (by decide) rfl hK ?_
    exact r_ret dX7_missing_14 rfl h
theorem b146_37 {g : Nat → Nat} {C S : Nat} {σ : PS} {Q : Rs → PS → Prop} {r0 : Nat} {x1 : Int32} {x2 : Int32} {w0 : Nat}
    (h : WP g C S 146 42 [some (.ref r0), some (.int x1), some (.int x2)] [.int 1, .ref w0] σ Q) :
    WP g C S 146 37 [some (.ref r0), some (.int x1), some (.int x2)] [.ref w0] σ Q := by
  refine r_ic (v := 1) dX7_missing_37 (by decide) ?_
  refine r_goto (t := 42) dX7_missing_38 (by decide) ?_
  exact h
theorem b146_42 {g : Nat → Nat} {C S : Nat} {σ : PS} {Q : Rs → PS → Prop} {r0 : Nat} {x1 : Int32} {x2 : Int32} {u0 : Int32} {w1 : Nat}
    (h : zK σ w1 = 9 ∧ (∀ τ1, τ1 = stI σ w1 0 u0 → zK τ1 r0 = 9 ∧ ((zI τ1 r0 0 : Int32) ≤ 0 → (¬ (x2 : Int32) = 0 → zK τ1 r0 = 9 ∧ ∃ b2, zP τ1 r0 34 = some b2 ∧ (∃ n3 : Nat, x1 = nI n3 ∧ n3 < 2147483648 ∧ (zK τ1 b2 = 101 ∨ zK τ1 b2 = 1002) ∧ n3 < zL τ1 b2 ∧ (WP g C S 146 75 [some (.ref r0), some (.int x1), some (.int x2)] [.int (zI τ1 b2 n3)] τ1 Q))) ∧ (¬ (¬ (x2 : Int32) = 0) → zK τ1 r0 = 9 ∧ ∃ b4, zP τ1 r0 33 = some b4 ∧ (∃ n5 : Nat, x1 = nI n5 ∧ n5 < 2147483648 ∧ (zK τ1 b4 = 101 ∨ zK τ1 b4 = 1002) ∧ n5 < zL τ1 b4 ∧ (WP g C S 146 75 [some (.ref r0), some (.int x1), some (.int x2)] [.int (zI τ1 b4 n5)] τ1 Q)))) ∧ (¬ ((zI τ1 r0 0 : Int32) ≤ 0) → WP g C S 146 75 [some (.ref r0), some (.int x1), some (.int x2)] [.int 0] τ1 Q))) :
    WP g C S 146 42 [some (.ref r0), some (.int x1), some (.int x2)] [.int u0, .ref w1] σ Q := by
  obtain ⟨hK, h⟩ := h
  refine r_putI dX7_missing_42 rfl (by decide) (Or.inl rfl) rfl (Or.inl rfl) hK ?_
  generalize eτ1 : stI σ w1 0 u0 = τ1
  replace h := h _ eτ1.symm
  refine r_g (pc' := 46) (ls' := [some (.ref r0), some (.int x1), some (.int x2)]) (st' := [.ref r0]) dX7_missing_45 (fun _ => rfl) ?_
  obtain ⟨hK, h⟩ := h
  refine r_getI dX7_missing_46 rfl (by decide) rfl hK ?_
  obtain ⟨h1, h2⟩ := h
  refine r_if (t := 56) dX7_missing_49 (by decide) c_le (fun c => ?_) (fun c => ?_)
  · have h := h1 c
    refine r_g (pc' := 57) (ls' := [some (.ref r0), some (.int x1), some (.int x2)]) (st' := [.int x2]) dX7_missing_56 (fun _ => rfl) ?_
    obtain ⟨h1, h2⟩ := h
    refine r_if (t := 69) dX7_missing_57 (by decide) c_ne (fun c => ?_) (fun c => ?_)
    · have h := h1 c
      refine r_g (pc' := 70) (ls' := [some (.ref r0), some (.int x1), some (.int x2)]) (st' := [.ref r0]) dX7_missing_69 (fun _ => rfl) ?_
      obtain ⟨hK, b2, hP, h⟩ := h
      refine r_getP dX7_missing_70 rfl (by decide) rfl hK hP ?_
      refine r_g (pc' := 74) (ls' := [some (.ref r0), some (.int x1), some (.int x2)]) (st' := [.int x1, .ref b2]) dX7_missing_73 (fun _ => rfl) ?_
      obtain ⟨n3, hj, hn, hK, hL, h⟩ := h
      refine r_iald dX7_missing_74 hj hn hK hL ?_
      exact h
    · have h := h2 c
      refine r_g (pc' := 61) (ls' := [some (.ref r0), some (.int x1), some (.int x2)]) (st' := [.ref r0]) dX7_missing_60 (fun _ => rfl) ?_
      obtain ⟨hK, b4, hP, h⟩ := h
      refine r_getP dX7_missing_61 rfl (by decide) rfl hK hP ?_
      refine r_g (pc' := 65) (ls' := [some (.ref r0), some (.int x1), some (.int x2)]) (st' := [.int x1, .ref b4]) dX7_missing_64 (fun _ => rfl) ?_
      obtain ⟨n5, hj, hn, hK, hL, h⟩ := h
      refine r_iald dX7_missing_65 hj hn hK hL ?_
      refine r_goto (t := 75) dX7_missing_66 (by decide) ?_
      exact h
  · have h := h2 c
    refine r_ic (v := 0) dX7_missing_52 (by decide) ?_
    refine r_goto (t := 75) dX7_missing_53 (by decide) ?_
    exact h
theorem b146_75 {g : Nat → Nat} {C S : Nat} {σ : PS} {Q : Rs → PS → Prop} {l0 : Option Value} {l1 : Option Value} {l2 : Option Value} {u0 : Int32}
    (h : Q (Sum.inl (some (.int u0))) σ) :
    WP g C S 146 75 [l0, l1, l2] [.int u0] σ Q := by
  exact r_ret dX7_missing_75 rfl h
theorem b147_0 {g : Nat → Nat} {C S : Nat} {σ : PS} {Q : Rs → PS → Prop} {r0 : Nat} {x1 : Int32} {l2 : Option Value}
    (h : zK σ r0 = 9 ∧ ((zI σ r0 24 : Int32) = 0 → WP g C S 147 25 [some (.ref r0), some (.int x1), l2] [.ref r0] σ Q) ∧ (¬ ((zI σ r0 24 : Int32) = 0) → ((x1 : Int32) = (-1) → WP g C S 147 21 [some (.ref r0), some (.int x1), l2] [.ref r0] σ Q) ∧ (¬ ((x1 : Int32) = (-1)) → zK σ r0 = 9 ∧ WP g C S 142 0 [some (.ref r0), some (.int x1)] [] σ (KK g C S 147 18 [some (.ref r0), some (.int x1), l2] [.ref r0] Q false)))) :
    WP g C S 147 0 [some (.ref r0), some (.int x1), l2] [] σ Q := by
  refine r_g (pc' := 1) (ls' := [some (.ref r0), some (.int x1), l2]) (st' := [.ref r0]) dX7_print_0 (fun _ => rfl) ?_
  refine r_g (pc' := 2) (ls' := [some (.ref r0), some (.int x1), l2]) (st' := [.ref r0, .ref r0]) dX7_print_1 (fun _ => rfl) ?_
  obtain ⟨hK, h⟩ := h
  refine r_getI dX7_print_2 rfl (by decide) rfl hK ?_
  obtain ⟨h1, h2⟩ := h
  refine r_if (t := 25) dX7_print_5 (by decide) c_eq (fun c => ?_) (fun c => ?_)
  · have h := h1 c
    exact h
  · have h := h2 c
    refine r_g (pc' := 9) (ls' := [some (.ref r0), some (.int x1), l2]) (st' := [.int x1, .ref r0]) dX7_print_8 (fun _ => rfl) ?_
    refine r_ic (v := -1) dX7_print_9 (by decide) ?_
    obtain ⟨h1, h2⟩ := h
    refine r_icmp (t := 21) dX7_print_10 (by decide) c_eq (fun c => ?_) (fun c => ?_)
    · have h := h1 c
      exact h
    · have h := h2 c
      refine r_g (pc' := 14) (ls' := [some (.ref r0), some (.int x1), l2]) (st' := [.ref r0, .ref r0]) dX7_print_13 (fun _ => rfl) ?_
      refine r_g (pc' := 15) (ls' := [some (.ref r0), some (.int x1), l2]) (st' := [.int x1, .ref r0, .ref r0]) dX7_print_14 (fun _ => rfl) ?_
      obtain ⟨hK, h⟩ := h
      exact r_call (th := false) dX7_print_15 (fun _ => ex_calV rfl (by decide)) rfl (Nat.le_of_ble_eq_true rfl) (Nat.le_of_ble_eq_true rfl) (Nat.le_of_ble_eq_true rfl) (rcv0 rfl rfl (by decide) hK) rfl rfl rfl (fun q => nomatch q) h
theorem b147_18 {g : Nat → Nat} {C S : Nat} {σ : PS} {Q : Rs → PS → Prop} {r0 : Nat} {x1 : Int32} {l2 : Option Value} {u0 : Int32} {w1 : Nat}
    (h : ((u0 : Int32) = 0 → WP g C S 147 25 [some (.ref r0), some (.int x1), l2] [.ref w1] σ Q) ∧ (¬ ((u0 : Int32) = 0) → WP g C S 147 21 [some (.ref r0), some (.int x1), l2] [.ref w1] σ Q)) :
    WP g C S 147 18 [some (.ref r0), some (.int x1), l2] [.int u0, .ref w1] σ Q := by
  obtain ⟨h1, h2⟩ := h
  refine r_if (t := 25) dX7_print_18 (by decide) c_eq (fun c => ?_) (fun c => ?_)
  · have h := h1 c
    exact h
  · have h := h2 c
    exact h
theorem b147_21 {g : Nat → Nat} {C S : Nat} {σ : PS} {Q : Rs → PS → Prop} {r0 : Nat} {x1 : Int32} {l2 : Option Value} {w0 : Nat}
    (h : WP g C S 147 26 [some (.ref r0), some (.int x1), l2] [.int 0, .ref w0] σ Q) :
    WP g C S 147 21 [some (.ref r0), some (.int x1), l2] [.ref w0] σ Q := by
  refine r_ic (v := 0) dX7_print_21 (by decide) ?_
  refine r_goto (t := 26) dX7_print_22 (by decide) ?_
  exact h
theorem b147_25 {g : Nat → Nat} {C S : Nat} {σ : PS} {Q : Rs → PS → Prop} {r0 : Nat} {x1 : Int32} {l2 : Option Value} {w0 : Nat}
    (h : WP g C S 147 26 [some (.ref r0), some (.int x1), l2] [.int 1, .ref w0] σ Q) :
    WP g C S 147 25 [some (.ref r0), some (.int x1), l2] [.ref w0] σ Q := by
  refine r_ic (v := 1) dX7_print_25 (by decide) ?_
  exact h
theorem b147_26 {g : Nat → Nat} {C S : Nat} {σ : PS} {Q : Rs → PS → Prop} {r0 : Nat} {x1 : Int32} {l2 : Option Value} {u0 : Int32} {w1 : Nat}
    (h : zK σ w1 = 9 ∧ (∀ τ1, τ1 = stI σ w1 0 u0 → zK τ1 r0 = 9 ∧ ((zI τ1 r0 0 : Int32) ≤ 0 → zK τ1 r0 = 9 ∧ (∀ τ2, τ2 = stI τ1 r0 21 0 → (¬ (x1 : Int32) = (-1) → WP g C S 147 76 [some (.ref r0), some (.int x1), l2] [] τ2 Q) ∧ (¬ (¬ (x1 : Int32) = (-1)) → zK τ2 r0 = 9 ∧ WP g C S 112 0 [some (.ref r0), some (.long 111542001886546), none, none, none] [] τ2 (KK g C S 147 55 [some (.ref r0), some (.int x1), l2] [] Q false)))) ∧ (¬ ((zI τ1 r0 0 : Int32) ≤ 0) → Q (Sum.inl (some (.int 0))) τ1))) :
    WP g C S 147 26 [some (.ref r0), some (.int x1), l2] [.int u0, .ref w1] σ Q := by
  obtain ⟨hK, h⟩ := h
  refine r_putI dX7_print_26 rfl (by decide) (Or.inl rfl) rfl (Or.inl rfl) hK ?_
  generalize eτ1 : stI σ w1 0 u0 = τ1
  replace h := h _ eτ1.symm
  refine r_g (pc' := 30) (ls' := [some (.ref r0), some (.int x1), l2]) (st' := [.ref r0]) dX7_print_29 (fun _ => rfl) ?_
  obtain ⟨hK, h⟩ := h
  refine r_getI dX7_print_30 rfl (by decide) rfl hK ?_
  obtain ⟨h1, h2⟩ := h
  refine r_if (t := 38) dX7_print_33 (by decide) c_le (fun c => ?_) (fun c => ?_)
  · have h := h1 c
    refine r_g (pc' := 39) (ls' := [some (.ref r0), some (.int x1), l2]) (st' := [.ref r0]) dX7_print_38 (fun _ => rfl) ?_
    refine r_ic (v := 0) dX7_print_39 (by decide) ?_
    obtain ⟨hK, h⟩ := h
    refine r_putI dX7_print_40 rfl (by decide) (Or.inl rfl) rfl (Or.inl rfl) hK ?_
    generalize eτ2 : stI τ1 r0 21 0 = τ2
    replace h := h _ eτ2.symm
    refine r_g (pc' := 44) (ls' := [some (.ref r0), some (.int x1), l2]) (st' := [.int x1]) dX7_print_43 (fun _ => rfl) ?_
    refine r_ic (v := -1) dX7_print_44 (by decide) ?_
    obtain ⟨h1, h2⟩ := h
    refine r_icmp (t := 76) dX7_print_45 (by decide) c_ne (fun c => ?_) (fun c => ?_)
    · have h := h1 c
      exact h
    · have h := h2 c
      refine r_g (pc' := 49) (ls' := [some (.ref r0), some (.int x1), l2]) (st' := [.ref r0]) dX7_print_48 (fun _ => rfl) ?_
      refine r_ldc2 dX7_print_49 rfl ?_
      obtain ⟨hK, h⟩ := h
      exact r_call (th := false) dX7_print_52 (fun _ => ex_calV rfl (by decide)) rfl (Nat.le_of_ble_eq_true rfl) (Nat.le_of_ble_eq_true rfl) (Nat.le_of_ble_eq_true rfl) (rcv0 rfl rfl (by decide) hK) rfl rfl rfl (fun q => nomatch q) h
  · have h := h2 c
    refine r_ic (v := 0) dX7_print_36 (by decide) ?_
    exact r_ret dX7_print_37 rfl h
theorem b147_55 {g : Nat → Nat} {C S : Nat} {σ : PS} {Q : Rs → PS → Prop} {r0 : Nat} {x1 : Int32} {l2 : Option Value}
    (h : zK σ r0 = 9 ∧ WP g C S 112 0 [some (.ref r0), some (.long 44119840088942), none, none, none] [] σ (KK g C S 147 62 [some (.ref r0), some (.int x1), l2] [] Q false)) :
    WP g C S 147 55 [some (.ref r0), some (.int x1), l2] [] σ Q := by
  refine r_g (pc' := 56) (ls' := [some (.ref r0), some (.int x1), l2]) (st' := [.ref r0]) dX7_print_55 (fun _ => rfl) ?_
  refine r_ldc2 dX7_print_56 rfl ?_
  obtain ⟨hK, h⟩ := h
  exact r_call (th := false) dX7_print_59 (fun _ => ex_calV rfl (by decide)) rfl (Nat.le_of_ble_eq_true rfl) (Nat.le_of_ble_eq_true rfl) (Nat.le_of_ble_eq_true rfl) (rcv0 rfl rfl (by decide) hK) rfl rfl rfl (fun q => nomatch q) h
theorem b147_62 {g : Nat → Nat} {C S : Nat} {σ : PS} {Q : Rs → PS → Prop} {r0 : Nat} {x1 : Int32} {l2 : Option Value}
    (h : zK σ r0 = 9 ∧ zK σ r0 = 9 ∧ WP g C S 137 0 [some (.ref r0), some (.int (zI σ r0 25))] [] σ (KK g C S 147 70 [some (.ref r0), some (.int x1), l2] [] Q false)) :
    WP g C S 147 62 [some (.ref r0), some (.int x1), l2] [] σ Q := by
  refine r_g (pc' := 63) (ls' := [some (.ref r0), some (.int x1), l2]) (st' := [.ref r0]) dX7_print_62 (fun _ => rfl) ?_
  refine r_g (pc' := 64) (ls' := [some (.ref r0), some (.int x1), l2]) (st' := [.ref r0, .ref r0]) dX7_print_63 (fun _ => rfl) ?_
  obtain ⟨hK, h⟩ := h
  refine r_getI dX7_print_64 rfl (by decide) rfl hK ?_
  obtain ⟨hK, h⟩ := h
  exact r_call (th := false) dX7_print_67 (fun _ => ex_calV rfl (by decide)) rfl (Nat.le_of_ble_eq_true rfl) (Nat.le_of_ble_eq_true rfl) (Nat.le_of_ble_eq_true rfl) (rcv0 rfl rfl (by decide) hK) rfl rfl rfl (fun q => nomatch q) h
theorem b147_70 {g : Nat → Nat} {C S : Nat} {σ : PS} {Q : Rs → PS → Prop} {r0 : Nat} {x1 : Int32} {l2 : Option Value}
    (h : zK σ r0 = 9 ∧ WP g C S 111 0 [some (.ref r0), some (.int 41)] [] σ (KK g C S 147 76 [some (.ref r0), some (.int x1), l2] [] Q false)) :
    WP g C S 147 70 [some (.ref r0), some (.int x1), l2] [] σ Q := by
  refine r_g (pc' := 71) (ls' := [some (.ref r0), some (.int x1), l2]) (st' := [.ref r0]) dX7_print_70 (fun _ => rfl) ?_
  refine r_bi (v := 41) dX7_print_71 (by decide) ?_
  obtain ⟨hK, h⟩ := h
  exact r_call (th := false) dX7_print_73 (fun _ => ex_calV rfl (by decide)) rfl (Nat.le_of_ble_eq_true rfl) (Nat.le_of_ble_eq_true rfl) (Nat.le_of_ble_eq_true rfl) (rcv0 rfl rfl (by decide) hK) rfl rfl rfl (fun q => nomatch q) h
theorem b147_76 {g : Nat → Nat} {C S : Nat} {σ : PS} {Q : Rs → PS → Prop} {r0 : Nat} {x1 : Int32} {l2 : Option Value}
    (h : (¬ (x1 : Int32) = (-1) → zK σ r0 = 9 ∧ ∃ b1, zP σ r0 30 = some b1 ∧ (∃ n2 : Nat, x1 = nI n2 ∧ n2 < 2147483648 ∧ (zK σ b1 = 101 ∨ zK σ b1 = 1002) ∧ n2 < zL σ b1 ∧ (WP g C S 147 95 [some (.ref r0), some (.int x1), l2] [.int (zI σ b1 n2), .ref r0] σ Q))) ∧ (¬ (¬ (x1 : Int32) = (-1)) → zK σ r0 = 9 ∧ WP g C S 147 95 [some (.ref r0), some (.int x1), l2] [.int (zI σ r0 21), .ref r0] σ Q)) :
    WP g C S 147 76 [some (.ref r0), some (.int x1), l2] [] σ Q := by
  refine r_g (pc' := 77) (ls' := [some (.ref r0), some (.int x1), l2]) (st' := [.ref r0]) dX7_print_76 (fun _ => rfl) ?_
  refine r_g (pc' := 78) (ls' := [some (.ref r0), some (.int x1), l2]) (st' := [.int x1, .ref r0]) dX7_print_77 (fun _ => rfl) ?_
  refine r_ic (v := -1) dX7_print_78 (by decide) ?_
  obtain ⟨h1, h2⟩ := h
  refine r_icmp (t := 89) dX7_print_79 (by decide) c_ne (fun c => ?_) (fun c => ?_)
  · have h := h1 c
    refine r_g (pc' := 90) (ls' := [some (.ref r0), some (.int x1), l2]) (st' := [.ref r0, .ref r0]) dX7_print_89 (fun _ => rfl) ?_
    obtain ⟨hK, b1, hP, h⟩ := h
    refine r_getP dX7_print_90 rfl (by decide) rfl hK hP ?_
    refine r_g (pc' := 94) (ls' := [some (.ref r0), some (.int x1), l2]) (st' := [.int x1, .ref b1, .ref r0]) dX7_print_93 (fun _ => rfl) ?_
    obtain ⟨n2, hj, hn, hK, hL, h⟩ := h
    refine r_iald dX7_print_94 hj hn hK hL ?_
    exact h
  · have h := h2 c
    refine r_g (pc' := 83) (ls' := [some (.ref r0), some (.int x1), l2]) (st' := [.ref r0, .ref r0]) dX7_print_82 (fun _ => rfl) ?_
    obtain ⟨hK, h⟩ := h
    refine r_getI dX7_print_83 rfl (by decide) rfl hK ?_
    refine r_goto (t := 95) dX7_print_86 (by decide) ?_
    exact h
theorem b147_95 {g : Nat → Nat} {C S : Nat} {σ : PS} {Q : Rs → PS → Prop} {r0 : Nat} {x1 : Int32} {l2 : Option Value} {u0 : Int32} {w1 : Nat}
    (h : zK σ w1 = 9 ∧ (∀ τ1, τ1 = stI σ w1 35 u0 → WP g C S 147 100 [some (.ref r0), some (.int x1), some (.int 0)] [] τ1 Q)) :
    WP g C S 147 95 [some (.ref r0), some (.int x1), l2] [.int u0, .ref w1] σ Q := by
  obtain ⟨hK, h⟩ := h
  refine r_putI dX7_print_95 rfl (by decide) (Or.inl rfl) rfl (Or.inl rfl) hK ?_
  generalize eτ1 : stI σ w1 35 u0 = τ1
  replace h := h _ eτ1.symm
  refine r_ic (v := 0) dX7_print_98 (by decide) ?_
  refine r_g (pc' := 100) (ls' := [some (.ref r0), some (.int x1), some (.int 0)]) (st' := []) dX7_print_99 (fun _ => rfl) ?_
  exact h
theorem b147_100 {g : Nat → Nat} {C S : Nat} {σ : PS} {Q : Rs → PS → Prop} {r0 : Nat} {x1 : Int32} {x2 : Int32}
    (h : zK σ r0 = 9 ∧ ((zI σ r0 35 : Int32) ≤ x2 → zK σ r0 = 9 ∧ Q (Sum.inl (some (.int (zI σ r0 35)))) σ) ∧ (¬ ((zI σ r0 35 : Int32) ≤ x2) → zK σ r0 = 9 ∧ ∃ b1, zP σ r0 36 = some b1 ∧ ((¬ (x1 : Int32) = (-1) → zK σ r0 = 9 ∧ ∃ b2, zP σ r0 31 = some b2 ∧ (∃ n3 : Nat, (1000 * x1) + x2 = nI n3 ∧ n3 < 2147483648 ∧ (zK σ b2 = 101 ∨ zK σ b2 = 1002) ∧ n3 < zL σ b2 ∧ (WP g C S 147 139 [some (.ref r0), some (.int x1), some (.int x2)] [.int (zI σ b2 n3), .int x2, .ref b1] σ Q))) ∧ (¬ (¬ (x1 : Int32) = (-1)) → zK σ r0 = 9 ∧ ∃ b4, zP σ r0 20 = some b4 ∧ (∃ n5 : Nat, x2 = nI n5 ∧ n5 < 2147483648 ∧ (zK σ b4 = 101 ∨ zK σ b4 = 1002) ∧ n5 < zL σ b4 ∧ (WP g C S 147 139 [some (.ref r0), some (.int x1), some (.int x2)] [.int (zI σ b4 n5), .int x2, .ref b1] σ Q)))))) :
    WP g C S 147 100 [some (.ref r0), some (.int x1), some (.int x2)] [] σ Q := by
  refine r_g (pc' := 101) (ls' := [some (.ref r0), some (.int x1), some (.int x2)]) (st' := [.int x2]) dX7_print_100 (fun _ => rfl) ?_
  refine r_g (pc' := 102) (ls' := [some (.ref r0), some (.int x1), some (.int x2)]) (st' := [.ref r0, .int x2]) dX7_print_101 (fun _ => rfl) ?_
  obtain ⟨hK, h⟩ := h
  refine r_getI dX7_print_102 rfl (by decide) rfl hK ?_
  obtain ⟨h1, h2⟩ := h
  refine r_icmp (t := 146) dX7_print_105 (by decide) c_ge (fun c => ?_) (fun c => ?_)
  · have h := h1 c
    refine r_g (pc' := 147) (ls' := [some (.ref r0), some (.int x1), some (.int x2)]) (st' := [.ref r0]) dX7_print_146 (fun _ => rfl) ?_
    obtain ⟨hK, h⟩ := h
    refine r_getI dX7_print_147 rfl (by decide) rfl hK ?_
    exact r_ret dX7_print_150 rfl h
  · have h := h2 c
    refine r_g (pc' := 109) (ls' := [some (.ref r0), some (.int x1), some (.int x2)]) (st' := [.ref r0]) dX7_print_108 (fun _ => rfl) ?_
    obtain ⟨hK, b1, hP, h⟩ := h
    refine r_getP dX7_print_109 rfl (by decide) rfl hK hP ?_
    refine r_g (pc' := 113) (ls' := [some (.ref r0), some (.int x1), some (.int x2)]) (st' := [.int x2, .ref b1]) dX7_print_112 (fun _ => rfl) ?_
    refine r_g (pc' := 114) (ls' := [some (.ref r0), some (.int x1), some (.int x2)]) (st' := [.int x1, .int x2, .ref b1]) dX7_print_113 (fun _ => rfl) ?_
    refine r_ic (v := -1) dX7_print_114 (by decide) ?_
    obtain ⟨h1, h2⟩ := h
    refine r_icmp (t := 127) dX7_print_115 (by decide) c_ne (fun c => ?_) (fun c => ?_)
    · have h := h1 c
      refine r_g (pc' := 128) (ls' := [some (.ref r0), some (.int x1), some (.int x2)]) (st' := [.ref r0, .int x2, .ref b1]) dX7_print_127 (fun _ => rfl) ?_
      obtain ⟨hK, b2, hP, h⟩ := h
      refine r_getP dX7_print_128 rfl (by decide) rfl hK hP ?_
      refine r_si (v := 1000) dX7_print_131 (by decide) ?_
      refine r_g (pc' := 135) (ls' := [some (.ref r0), some (.int x1), some (.int x2)]) (st' := [.int x1, .int 1000, .ref b2, .int x2, .ref b1]) dX7_print_134 (fun _ => rfl) ?_
      refine r_g (pc' := 136) (ls' := [some (.ref r0), some (.int x1), some (.int x2)]) (st' := [.int (1000 * x1), .ref b2, .int x2, .ref b1]) dX7_print_135 (fun _ => rfl) ?_
      refine r_g (pc' := 137) (ls' := [some (.ref r0), some (.int x1), some (.int x2)]) (st' := [.int x2, .int (1000 * x1), .ref b2, .int x2, .ref b1]) dX7_print_136 (fun _ => rfl) ?_
      refine r_g (pc' := 138) (ls' := [some (.ref r0), some (.int x1), some (.int x2)]) (st' := [.int ((1000 * x1) + x2), .ref b2, .int x2, .ref b1]) dX7_print_137 (fun _ => rfl) ?_
      obtain ⟨n3, hj, hn, hK, hL, h⟩ := h
      refine r_iald dX7_print_138 hj hn hK hL ?_
      exact h
    · have h := h2 c
      refine r_g (pc' := 119) (ls' := [some (.ref r0), some (.int x1), some (.int x2)]) (st' := [.ref r0, .int x2, .ref b1]) dX7_print_118 (fun _ => rfl) ?_
      obtain ⟨hK, b4, hP, h⟩ := h
      refine r_getP dX7_print_119 rfl (by decide) rfl hK hP ?_
      refine r_g (pc' := 123) (ls' := [some (.ref r0), some (.int x1), some (.int x2)]) (st' := [.int x2, .ref b4, .int x2, .ref b1]) dX7_print_122 (fun _ => rfl) ?_
      obtain ⟨n5, hj, hn, hK, hL, h⟩ := h
      refine r_iald dX7_print_123 hj hn hK hL ?_
      refine r_goto (t := 139) dX7_print_124 (by decide) ?_
      exact h
theorem b147_139 {g : Nat → Nat} {C S : Nat} {σ : PS} {Q : Rs → PS → Prop} {r0 : Nat} {x1 : Int32} {x2 : Int32} {u0 : Int32} {u1 : Int32} {w2 : Nat}
    (h : ∃ n1 : Nat, u1 = nI n1 ∧ n1 < 2147483648 ∧ zK σ w2 = 101 ∧ n1 < zL σ w2 ∧ (∀ τ2, τ2 = stI σ w2 n1 u0 → WP g C S 147 100 [some (.ref r0), some (.int x1), some (.int (x2 + 1))] [] τ2 Q)) :
    WP g C S 147 139 [some (.ref r0), some (.int x1), some (.int x2)] [.int u0, .int u1, .ref w2] σ Q := by
  obtain ⟨n1, hj, hn, hK, hL, h⟩ := h
  refine r_iast dX7_print_139 hj hn hK hL ?_
  generalize eτ2 : stI σ w2 n1 u0 = τ2
  replace h := h _ eτ2.symm
  refine r_inc (v := 1) (ls' := [some (.ref r0), some (.int x1), some (.int (x2 + 1))]) dX7_print_140 rfl (Nat.le_of_ble_eq_true rfl) (by decide) rfl ?_
  refine r_goto (t := 100) dX7_print_143 (by decide) ?_
  exact h
theorem b148_0 {g : Nat → Nat} {C S : Nat} {σ : PS} {Q : Rs → PS → Prop} {r0 : Nat} {x1 : Int32}
    (h : ((x1 : Int32) < 0 → WP g C S 148 13 [some (.ref r0), some (.int x1)] [.ref r0] σ Q) ∧ (¬ ((x1 : Int32) < 0) → zK σ r0 = 9 ∧ ((x1 : Int32) < (zI σ r0 35) → WP g C S 148 18 [some (.ref r0), some (.int x1)] [.int 0, .ref r0] σ Q) ∧ (¬ ((x1 : Int32) < (zI σ r0 35)) → WP g C S 148 13 [some (.ref r0), some (.int x1)] [.ref r0] σ Q))) :
    WP g C S 148 0 [some (.ref r0), some (.int x1)] [] σ Q := by
  refine r_g (pc' := 1) (ls' := [some (.ref r0), some (.int x1)]) (st' := [.ref r0]) dX7_at_0 (fun _ => rfl) ?_
  refine r_g (pc' := 2) (ls' := [some (.ref r0), some (.int x1)]) (st' := [.int x1, .ref r0]) dX7_at_1 (fun _ => rfl) ?_
  obtain ⟨h1, h2⟩ := h
  refine r_if (t := 13) dX7_at_2 (by decide) c_lt (fun c => ?_) (fun c => ?_)
  · have h := h1 c
    exact h
  · have h := h2 c
    refine r_g (pc' := 6) (ls' := [some (.ref r0), some (.int x1)]) (st' := [.int x1, .ref r0]) dX7_at_5 (fun _ => rfl) ?_
    refine r_g (pc' := 7) (ls' := [some (.ref r0), some (.int x1)]) (st' := [.ref r0, .int x1, .ref r0]) dX7_at_6 (fun _ => rfl) ?_
    obtain ⟨hK, h⟩ := h
    refine r_getI dX7_at_7 rfl (by decide) rfl hK ?_
    obtain ⟨h1, h2⟩ := h
    refine r_icmp (t := 17) dX7_at_10 (by decide) c_lt (fun c => ?_) (fun c => ?_)
    · have h := h1 c
      refine r_ic (v := 0) dX7_at_17 (by decide) ?_
      exact h
    · have h := h2 c
      exact h
theorem b148_13 {g : Nat → Nat} {C S : Nat} {σ : PS} {Q : Rs → PS → Prop} {r0 : Nat} {x1 : Int32} {w0 : Nat}
    (h : WP g C S 148 18 [some (.ref r0), some (.int x1)] [.int 1, .ref w0] σ Q) :
    WP g C S 148 13 [some (.ref r0), some (.int x1)] [.ref w0] σ Q := by
  refine r_ic (v := 1) dX7_at_13 (by decide) ?_
  refine r_goto (t := 18) dX7_at_14 (by decide) ?_
  exact h
theorem b148_18 {g : Nat → Nat} {C S : Nat} {σ : PS} {Q : Rs → PS → Prop} {r0 : Nat} {x1 : Int32} {u0 : Int32} {w1 : Nat}
    (h : zK σ w1 = 9 ∧ (∀ τ1, τ1 = stI σ w1 0 u0 → zK τ1 r0 = 9 ∧ ((zI τ1 r0 0 : Int32) ≤ 0 → zK τ1 r0 = 9 ∧ ∃ b2, zP τ1 r0 36 = some b2 ∧ (∃ n3 : Nat, x1 = nI n3 ∧ n3 < 2147483648 ∧ (zK τ1 b2 = 101 ∨ zK τ1 b2 = 1002) ∧ n3 < zL τ1 b2 ∧ (WP g C S 148 38 [some (.ref r0), some (.int x1)] [.int (zI τ1 b2 n3)] τ1 Q))) ∧ (¬ ((zI τ1 r0 0 : Int32) ≤ 0) → WP g C S 148 38 [some (.ref r0), some (.int x1)] [.int 0] τ1 Q))) :
    WP g C S 148 18 [some (.ref r0), some (.int x1)] [.int u0, .ref w1] σ Q := by
  obtain ⟨hK, h⟩ := h
  refine r_putI dX7_at_18 rfl (by decide) (Or.inl rfl) rfl (Or.inl rfl) hK ?_
  generalize eτ1 : stI σ w1 0 u0 = τ1
  replace h := h _ eτ1.symm
  refine r_g (pc' := 22) (ls' := [some (.ref r0), some (.int x1)]) (st' := [.ref r0]) dX7_at_21 (fun _ => rfl) ?_
  obtain ⟨hK, h⟩ := h
  refine r_getI dX7_at_22 rfl (by decide) rfl hK ?_
  obtain ⟨h1, h2⟩ := h
  refine r_if (t := 32) dX7_at_25 (by decide) c_le (fun c => ?_) (fun c => ?_)
  · have h := h1 c
    refine r_g (pc' := 33) (ls' := [some (.ref r0), some (.int x1)]) (st' := [.ref r0]) dX7_at_32 (fun _ => rfl) ?_
    obtain ⟨hK, b2, hP, h⟩ := h
    refine r_getP dX7_at_33 rfl (by decide) rfl hK hP ?_
    refine r_g (pc' := 37) (ls' := [some (.ref r0), some (.int x1)]) (st' := [.int x1, .ref b2]) dX7_at_36 (fun _ => rfl) ?_
    obtain ⟨n3, hj, hn, hK, hL, h⟩ := h
    refine r_iald dX7_at_37 hj hn hK hL ?_
    exact h
  · have h := h2 c
    refine r_ic (v := 0) dX7_at_28 (by decide) ?_
    refine r_goto (t := 38) dX7_at_29 (by decide) ?_
    exact h
theorem b148_38 {g : Nat → Nat} {C S : Nat} {σ : PS} {Q : Rs → PS → Prop} {l0 : Option Value} {l1 : Option Value} {u0 : Int32}
    (h : Q (Sum.inl (some (.int u0))) σ) :
    WP g C S 148 38 [l0, l1] [.int u0] σ Q := by
  exact r_ret dX7_at_38 rfl h
theorem b149_0 {g : Nat → Nat} {C S : Nat} {σ : PS} {Q : Rs → PS → Prop} {r0 : Nat} {x1 : Int32} {l2 : Option Value} {l3 : Option Value} {l4 : Option Value}
    (h : zK σ r0 = 9 ∧ (∀ τ1, τ1 = stI σ r0 0 0 → WP g C S 149 12 [some (.ref r0), some (.int x1), some (.int 0), some (.int (-1)), some (.int 0)] [] τ1 Q)) :
    WP g C S 149 0 [some (.ref r0), some (.int x1), l2, l3, l4] [] σ Q := by
  refine r_g (pc' := 1) (ls' := [some (.ref r0), some (.int x1), l2, l3, l4]) (st' := [.ref r0]) dX7_twice_0 (fun _ => rfl) ?_
  refine r_ic (v := 0) dX7_twice_1 (by decide) ?_
  obtain ⟨hK, h⟩ := h
  refine r_putI dX7_twice_2 rfl (by decide) (Or.inl rfl) rfl (Or.inl rfl) hK ?_
  generalize eτ1 : stI σ r0 0 0 = τ1
  replace h := h _ eτ1.symm
  refine r_ic (v := 0) dX7_twice_5 (by decide) ?_
  refine r_g (pc' := 7) (ls' := [some (.ref r0), some (.int x1), some (.int 0), l3, l4]) (st' := []) dX7_twice_6 (fun _ => rfl) ?_
  refine r_ic (v := -1) dX7_twice_7 (by decide) ?_
  refine r_g (pc' := 9) (ls' := [some (.ref r0), some (.int x1), some (.int 0), some (.int (-1)), l4]) (st' := []) dX7_twice_8 (fun _ => rfl) ?_
  refine r_ic (v := 0) dX7_twice_9 (by decide) ?_
  refine r_g (pc' := 12) (ls' := [some (.ref r0), some (.int x1), some (.int 0), some (.int (-1)), some (.int 0)]) (st' := []) dX7_twice_10 (fun _ => rfl) ?_
  exact h
theorem b149_12 {g : Nat → Nat} {C S : Nat} {σ : PS} {Q : Rs → PS → Prop} {r0 : Nat} {x1 : Int32} {x2 : Int32} {x3 : Int32} {x4 : Int32}
    (h : zK σ r0 = 9 ∧ ((zI σ r0 1 : Int32) ≤ x4 → (¬ (x1 : Int32) = (-1) → (¬ (x3 : Int32) = (-1) → WP g C S 149 71 [some (.ref r0), some (.int x1), some (.int x2), some (.int x3), some (.int x4)] [.int 0, .ref r0] σ Q) ∧ (¬ (¬ (x3 : Int32) = (-1)) → WP g C S 149 71 [some (.ref r0), some (.int x1), some (.int x2), some (.int x3), some (.int x4)] [.int 1, .ref r0] σ Q)) ∧ (¬ (¬ (x1 : Int32) = (-1)) → Q (Sum.inl (some (.int x2))) σ)) ∧ (¬ ((zI σ r0 1 : Int32) ≤ x4) → zK σ r0 = 9 ∧ WP g C S 104 0 [some (.ref r0), some (.int x4), none, none, none] [] σ (KK g C S 149 27 [some (.ref r0), some (.int x1), some (.int x2), some (.int x3), some (.int x4)] [] Q false))) :
    WP g C S 149 12 [some (.ref r0), some (.int x1), some (.int x2), some (.int x3), some (.int x4)] [] σ Q := by
  refine r_g (pc' := 14) (ls' := [some (.ref r0), some (.int x1), some (.int x2), some (.int x3), some (.int x4)]) (st' := [.int x4]) dX7_twice_12 (fun _ => rfl) ?_
  refine r_g (pc' := 15) (ls' := [some (.ref r0), some (.int x1), some (.int x2), some (.int x3), some (.int x4)]) (st' := [.ref r0, .int x4]) dX7_twice_14 (fun _ => rfl) ?_
  obtain ⟨hK, h⟩ := h
  refine r_getI dX7_twice_15 rfl (by decide) rfl hK ?_
  obtain ⟨h1, h2⟩ := h
  refine r_icmp (t := 53) dX7_twice_18 (by decide) c_ge (fun c => ?_) (fun c => ?_)
  · have h := h1 c
    refine r_g (pc' := 54) (ls' := [some (.ref r0), some (.int x1), some (.int x2), some (.int x3), some (.int x4)]) (st' := [.int x1]) dX7_twice_53 (fun _ => rfl) ?_
    refine r_ic (v := -1) dX7_twice_54 (by decide) ?_
    obtain ⟨h1, h2⟩ := h
    refine r_icmp (t := 60) dX7_twice_55 (by decide) c_ne (fun c => ?_) (fun c => ?_)
    · have h := h1 c
      refine r_g (pc' := 61) (ls' := [some (.ref r0), some (.int x1), some (.int x2), some (.int x3), some (.int x4)]) (st' := [.ref r0]) dX7_twice_60 (fun _ => rfl) ?_
      refine r_g (pc' := 62) (ls' := [some (.ref r0), some (.int x1), some (.int x2), some (.int x3), some (.int x4)]) (st' := [.int x3, .ref r0]) dX7_twice_61 (fun _ => rfl) ?_
      refine r_ic (v := -1) dX7_twice_62 (by decide) ?_
      obtain ⟨h1, h2⟩ := h
      refine r_icmp (t := 70) dX7_twice_63 (by decide) c_ne (fun c => ?_) (fun c => ?_)
      · have h := h1 c
        refine r_ic (v := 0) dX7_twice_70 (by decide) ?_
        exact h
      · have h := h2 c
        refine r_ic (v := 1) dX7_twice_66 (by decide) ?_
        refine r_goto (t := 71) dX7_twice_67 (by decide) ?_
        exact h
    · have h := h2 c
      refine r_g (pc' := 59) (ls' := [some (.ref r0), some (.int x1), some (.int x2), some (.int x3), some (.int x4)]) (st' := [.int x2]) dX7_twice_58 (fun _ => rfl) ?_
      exact r_ret dX7_twice_59 rfl h
  · have h := h2 c
    refine r_g (pc' := 22) (ls' := [some (.ref r0), some (.int x1), some (.int x2), some (.int x3), some (.int x4)]) (st' := [.ref r0]) dX7_twice_21 (fun _ => rfl) ?_
    refine r_g (pc' := 24) (ls' := [some (.ref r0), some (.int x1), some (.int x2), some (.int x3), some (.int x4)]) (st' := [.int x4, .ref r0]) dX7_twice_22 (fun _ => rfl) ?_
    obtain ⟨hK, h⟩ := h
    exact r_call (th := false) dX7_twice_24 (fun _ => ex_calV rfl (by decide)) rfl (Nat.le_of_ble_eq_true rfl) (Nat.le_of_ble_eq_true rfl) (Nat.le_of_ble_eq_true rfl) (rcv0 rfl rfl (by decide) hK) rfl rfl rfl (fun q => nomatch q) h
theorem b149_27 {g : Nat → Nat} {C S : Nat} {σ : PS} {Q : Rs → PS → Prop} {r0 : Nat} {x1 : Int32} {x2 : Int32} {x3 : Int32} {x4 : Int32} {u0 : Int32}
    (h : ((u0 : Int32) = x4 → WP g C S 149 47 [some (.ref r0), some (.int x1), some (.int x2), some (.int x3), some (.int x4)] [] σ Q) ∧ (¬ ((u0 : Int32) = x4) → (¬ (x2 : Int32) = x1 → WP g C S 149 43 [some (.ref r0), some (.int x1), some (.int x2), some (.int x3), some (.int x4)] [.int x3] σ Q) ∧ (¬ (¬ (x2 : Int32) = x1) → WP g C S 149 43 [some (.ref r0), some (.int x1), some (.int x2), some (.int x3), some (.int x4)] [.int x4] σ Q))) :
    WP g C S 149 27 [some (.ref r0), some (.int x1), some (.int x2), some (.int x3), some (.int x4)] [.int u0] σ Q := by
  refine r_g (pc' := 29) (ls' := [some (.ref r0), some (.int x1), some (.int x2), some (.int x3), some (.int x4)]) (st' := [.int x4, .int u0]) dX7_twice_27 (fun _ => rfl) ?_
  obtain ⟨h1, h2⟩ := h
  refine r_icmp (t := 47) dX7_twice_29 (by decide) c_eq (fun c => ?_) (fun c => ?_)
  · have h := h1 c
    exact h
  · have h := h2 c
    refine r_g (pc' := 33) (ls' := [some (.ref r0), some (.int x1), some (.int x2), some (.int x3), some (.int x4)]) (st' := [.int x2]) dX7_twice_32 (fun _ => rfl) ?_
    refine r_g (pc' := 34) (ls' := [some (.ref r0), some (.int x1), some (.int x2), some (.int x3), some (.int x4)]) (st' := [.int x1, .int x2]) dX7_twice_33 (fun _ => rfl) ?_
    obtain ⟨h1, h2⟩ := h
    refine r_icmp (t := 42) dX7_twice_34 (by decide) c_ne (fun c => ?_) (fun c => ?_)
    · have h := h1 c
      refine r_g (pc' := 43) (ls' := [some (.ref r0), some (.int x1), some (.int x2), some (.int x3), some (.int x4)]) (st' := [.int x3]) dX7_twice_42 (fun _ => rfl) ?_
      exact h
    · have h := h2 c
      refine r_g (pc' := 39) (ls' := [some (.ref r0), some (.int x1), some (.int x2), some (.int x3), some (.int x4)]) (st' := [.int x4]) dX7_twice_37 (fun _ => rfl) ?_
      refine r_goto (t := 43) dX7_twice_39 (by decide) ?_
      exact h
theorem b149_43 {g : Nat → Nat} {C S : Nat} {σ : PS} {Q : Rs → PS → Prop} {r0 : Nat} {x1 : Int32} {x2 : Int32} {l3 : Option Value} {x4 : Int32} {u0 : Int32}
    (h : WP g C S 149 47 [some (.ref r0), some (.int x1), some (.int (x2 + 1)), some (.int u0), some (.int x4)] [] σ Q) :
    WP g C S 149 43 [some (.ref r0), some (.int x1), some (.int x2), l3, some (.int x4)] [.int u0] σ Q := by
  refine r_g (pc' := 44) (ls' := [some (.ref r0), some (.int x1), some (.int x2), some (.int u0), some (.int x4)]) (st' := []) dX7_twice_43 (fun _ => rfl) ?_
  refine r_inc (v := 1) (ls' := [some (.ref r0), some (.int x1), some (.int (x2 + 1)), some (.int u0), some (.int x4)]) dX7_twice_44 rfl (Nat.le_of_ble_eq_true rfl) (by decide) rfl ?_
  exact h
theorem b149_47 {g : Nat → Nat} {C S : Nat} {σ : PS} {Q : Rs → PS → Prop} {r0 : Nat} {x1 : Int32} {x2 : Int32} {x3 : Int32} {x4 : Int32}
    (h : WP g C S 149 12 [some (.ref r0), some (.int x1), some (.int x2), some (.int x3), some (.int (x4 + 1))] [] σ Q) :
    WP g C S 149 47 [some (.ref r0), some (.int x1), some (.int x2), some (.int x3), some (.int x4)] [] σ Q := by
  refine r_inc (v := 1) (ls' := [some (.ref r0), some (.int x1), some (.int x2), some (.int x3), some (.int (x4 + 1))]) dX7_twice_47 rfl (Nat.le_of_ble_eq_true rfl) (by decide) rfl ?_
  refine r_goto (t := 12) dX7_twice_50 (by decide) ?_
  exact h
theorem b149_71 {g : Nat → Nat} {C S : Nat} {σ : PS} {Q : Rs → PS → Prop} {r0 : Nat} {l1 : Option Value} {l2 : Option Value} {x3 : Int32} {l4 : Option Value} {u0 : Int32} {w1 : Nat}
    (h : zK σ w1 = 9 ∧ (∀ τ1, τ1 = stI σ w1 0 u0 → zK τ1 r0 = 9 ∧ ((zI τ1 r0 0 : Int32) ≤ 0 → WP g C S 149 86 [some (.ref r0), l1, l2, some (.int x3), l4] [.int x3] τ1 Q) ∧ (¬ ((zI τ1 r0 0 : Int32) ≤ 0) → WP g C S 149 86 [some (.ref r0), l1, l2, some (.int x3), l4] [.int 0] τ1 Q))) :
    WP g C S 149 71 [some (.ref r0), l1, l2, some (.int x3), l4] [.int u0, .ref w1] σ Q := by
  obtain ⟨hK, h⟩ := h
  refine r_putI dX7_twice_71 rfl (by decide) (Or.inl rfl) rfl (Or.inl rfl) hK ?_
  generalize eτ1 : stI σ w1 0 u0 = τ1
  replace h := h _ eτ1.symm
  refine r_g (pc' := 75) (ls' := [some (.ref r0), l1, l2, some (.int x3), l4]) (st' := [.ref r0]) dX7_twice_74 (fun _ => rfl) ?_
  obtain ⟨hK, h⟩ := h
  refine r_getI dX7_twice_75 rfl (by decide) rfl hK ?_
  obtain ⟨h1, h2⟩ := h
  refine r_if (t := 85) dX7_twice_78 (by decide) c_le (fun c => ?_) (fun c => ?_)
  · have h := h1 c
    refine r_g (pc' := 86) (ls' := [some (.ref r0), l1, l2, some (.int x3), l4]) (st' := [.int x3]) dX7_twice_85 (fun _ => rfl) ?_
    exact h
  · have h := h2 c
    refine r_ic (v := 0) dX7_twice_81 (by decide) ?_
    refine r_goto (t := 86) dX7_twice_82 (by decide) ?_
    exact h
theorem b149_86 {g : Nat → Nat} {C S : Nat} {σ : PS} {Q : Rs → PS → Prop} {l0 : Option Value} {l1 : Option Value} {l2 : Option Value} {l3 : Option Value} {l4 : Option Value} {u0 : Int32}
    (h : Q (Sum.inl (some (.int u0))) σ) :
    WP g C S 149 86 [l0, l1, l2, l3, l4] [.int u0] σ Q := by
  exact r_ret dX7_twice_86 rfl h
