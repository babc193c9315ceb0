section Blk
variable {g : Nat → Nat} {C S m : Nat} {A : Nat → Nat}
theorem v120_0 {v : VS} {Q : Rs → VS → Prop} {x1 : Int} {l2 : Option Value} {l3 : Option Value} {l4 : Option Value}
    (h : RW g C S m A 120 2 [some (.ref m), some (.int (iI x1)), some (.int (iI 0)), l3, l4] [] v Q) (hx1 : (-2147483648 : Int) ≤ x1 ∧ x1 ≤ 2147483647 := by omega) :
    RW g C S m A 120 0 [some (.ref m), some (.int (iI x1)), l2, l3, l4] [] v Q := by
  refine qv_R (fun hvv => ?_)
  refine qv_ic dX7_order_0 ?_
  refine qv_g (pc' := 2) (ls' := [some (.ref m), some (.int (iI x1)), some (.int (iI 0)), l3, l4]) (st' := []) dX7_order_1 (fun _ _ => rfl) ?_
  exact h
theorem v120_2 {v : VS} {Q : Rs → VS → Prop} {x1 : Int} {x2 : Int} {l3 : Option Value} {l4 : Option Value}
    (h : (v 21 0 ≤ x2 → RW g C S m A 120 82 [some (.ref m), some (.int (iI x1)), some (.int (iI x2)), l3, l4] [] v Q) ∧ (x2 < v 21 0 → (v 23 0 ≤ x2 → RW g C S m A 120 82 [some (.ref m), some (.int (iI x1)), some (.int (iI x2)), l3, l4] [] v Q) ∧ (x2 < v 23 0 → (x1 = 0 → ((0 : Int) ≤ x2 ∧ (x2 : Int) < 1000) ∧ RW g C S m A 120 40 [some (.ref m), some (.int (iI x1)), some (.int (iI x2)), l3, l4] [.int (iI (v 22 x2))] v Q) ∧ (¬ x1 = 0 → ((0 : Int) ≤ x2 ∧ (x2 : Int) < 1000) ∧ RW g C S m A 105 0 [some (.int (iI (v 22 x2))), none] [] v (VK g C S m A 120 31 [some (.ref m), some (.int (iI x1)), some (.int (iI x2)), l3, l4] [] Q))))) (hx1 : (-2147483648 : Int) ≤ x1 ∧ x1 ≤ 2147483647 := by omega) (hx2 : (-2147483648 : Int) ≤ x2 ∧ x2 ≤ 2147483647 := by omega) :
    RW g C S m A 120 2 [some (.ref m), some (.int (iI x1)), some (.int (iI x2)), l3, l4] [] v Q := by
  refine qv_R (fun hvv => ?_)
  refine qv_g (pc' := 3) (ls' := [some (.ref m), some (.int (iI x1)), some (.int (iI x2)), l3, l4]) (st' := [.int (iI x2)]) dX7_order_2 (fun _ _ => rfl) ?_
  refine qv_g (pc' := 4) (ls' := [some (.ref m), some (.int (iI x1)), some (.int (iI x2)), l3, l4]) (st' := [.ref m, .int (iI x2)]) dX7_order_3 (fun _ _ => rfl) ?_
  refine qv_getI dX7_order_4 rfl rfl rfl ?_
  obtain ⟨h1, h2⟩ := h
  refine qv_icmp (t := 82) dX7_order_7 (by decide) (d_ge hx2 (hvv _ _)) (fun c => ?_) (fun c => ?_)
  · have h := h1 c
    exact h
  · have h := h2 (Int.not_le.mp c)
    refine qv_g (pc' := 11) (ls' := [some (.ref m), some (.int (iI x1)), some (.int (iI x2)), l3, l4]) (st' := [.int (iI x2)]) dX7_order_10 (fun _ _ => rfl) ?_
    refine qv_g (pc' := 12) (ls' := [some (.ref m), some (.int (iI x1)), some (.int (iI x2)), l3, l4]) (st' := [.ref m, .int (iI x2)]) dX7_order_11 (fun _ _ => rfl) ?_
    refine qv_getI dX7_order_12 rfl rfl rfl ?_
    obtain ⟨h1, h2⟩ := h
    refine qv_icmp (t := 82) dX7_order_15 (by decide) (d_ge hx2 (hvv _ _)) (fun c => ?_) (fun c => ?_)
    · have h := h1 c
      exact h
    · have h := h2 (Int.not_le.mp c)
      refine qv_g (pc' := 19) (ls' := [some (.ref m), some (.int (iI x1)), some (.int (iI x2)), l3, l4]) (st' := [.int (iI x1)]) dX7_order_18 (fun _ _ => rfl) ?_
      obtain ⟨h1, h2⟩ := h
      refine qv_if (t := 34) dX7_order_19 (by decide) (d_eq hx1 (by decide)) (fun c => ?_) (fun c => ?_)
      · have h := h1 c
        refine qv_g (pc' := 35) (ls' := [some (.ref m), some (.int (iI x1)), some (.int (iI x2)), l3, l4]) (st' := [.ref m]) dX7_order_34 (fun _ _ => rfl) ?_
        refine qv_getA dX7_order_35 rfl rfl (by decide) ?_
        refine qv_g (pc' := 39) (ls' := [some (.ref m), some (.int (iI x1)), some (.int (iI x2)), l3, l4]) (st' := [.int (iI x2), .ref (A 22)]) dX7_order_38 (fun _ _ => rfl) ?_
        obtain ⟨hr1, h⟩ := h
        refine qv_iald dX7_order_39 (by decide) hr1 (by decide) ?_
        exact h
      · have h := h2 c
        refine qv_g (pc' := 23) (ls' := [some (.ref m), some (.int (iI x1)), some (.int (iI x2)), l3, l4]) (st' := [.ref m]) dX7_order_22 (fun _ _ => rfl) ?_
        refine qv_getA dX7_order_23 rfl rfl (by decide) ?_
        refine qv_g (pc' := 27) (ls' := [some (.ref m), some (.int (iI x1)), some (.int (iI x2)), l3, l4]) (st' := [.int (iI x2), .ref (A 22)]) dX7_order_26 (fun _ _ => rfl) ?_
        obtain ⟨hr2, h⟩ := h
        refine qv_iald dX7_order_27 (by decide) hr2 (by decide) ?_
        exact qv_call dX7_order_28 (fun _ _ => ex_calS rfl (by decide)) rfl (Nat.le_of_ble_eq_true rfl) (Nat.le_of_ble_eq_true rfl) (Nat.le_of_ble_eq_true rfl) (fun _ _ => rfl) rfl rfl rfl h
theorem v120_31 {v : VS} {Q : Rs → VS → Prop} {x1 : Int} {x2 : Int} {l3 : Option Value} {l4 : Option Value} {u0 : Int}
    (h : RW g C S m A 120 40 [some (.ref m), some (.int (iI x1)), some (.int (iI x2)), l3, l4] [.int (iI u0)] v Q) (hx1 : (-2147483648 : Int) ≤ x1 ∧ x1 ≤ 2147483647 := by omega) (hx2 : (-2147483648 : Int) ≤ x2 ∧ x2 ≤ 2147483647 := by omega) (hu0 : (-2147483648 : Int) ≤ u0 ∧ u0 ≤ 2147483647 := by omega) :
    RW g C S m A 120 31 [some (.ref m), some (.int (iI x1)), some (.int (iI x2)), l3, l4] [.int (iI u0)] v Q := by
  refine qv_R (fun hvv => ?_)
  refine qv_goto (t := 40) dX7_order_31 (by decide) ?_
  exact h
theorem v120_40 {v : VS} {Q : Rs → VS → Prop} {x1 : Int} {x2 : Int} {l3 : Option Value} {l4 : Option Value} {u0 : Int}
    (h : (x1 = 0 → ((0 : Int) ≤ x2 ∧ (x2 : Int) < 1000) ∧ RW g C S m A 120 63 [some (.ref m), some (.int (iI x1)), some (.int (iI x2)), some (.int (iI u0)), l4] [.int (iI (v 20 x2))] v Q) ∧ (¬ x1 = 0 → ((0 : Int) ≤ x2 ∧ (x2 : Int) < 1000) ∧ RW g C S m A 105 0 [some (.int (iI (v 20 x2))), none] [] v (VK g C S m A 120 54 [some (.ref m), some (.int (iI x1)), some (.int (iI x2)), some (.int (iI u0)), l4] [] Q))) (hx1 : (-2147483648 : Int) ≤ x1 ∧ x1 ≤ 2147483647 := by omega) (hx2 : (-2147483648 : Int) ≤ x2 ∧ x2 ≤ 2147483647 := by omega) (hu0 : (-2147483648 : Int) ≤ u0 ∧ u0 ≤ 2147483647 := by omega) :
    RW g C S m A 120 40 [some (.ref m), some (.int (iI x1)), some (.int (iI x2)), l3, l4] [.int (iI u0)] v Q := by
  refine qv_R (fun hvv => ?_)
  refine qv_g (pc' := 41) (ls' := [some (.ref m), some (.int (iI x1)), some (.int (iI x2)), some (.int (iI u0)), l4]) (st' := []) dX7_order_40 (fun _ _ => rfl) ?_
  refine qv_g (pc' := 42) (ls' := [some (.ref m), some (.int (iI x1)), some (.int (iI x2)), some (.int (iI u0)), l4]) (st' := [.int (iI x1)]) dX7_order_41 (fun _ _ => rfl) ?_
  obtain ⟨h1, h2⟩ := h
  refine qv_if (t := 57) dX7_order_42 (by decide) (d_eq hx1 (by decide)) (fun c => ?_) (fun c => ?_)
  · have h := h1 c
    refine qv_g (pc' := 58) (ls' := [some (.ref m), some (.int (iI x1)), some (.int (iI x2)), some (.int (iI u0)), l4]) (st' := [.ref m]) dX7_order_57 (fun _ _ => rfl) ?_
    refine qv_getA dX7_order_58 rfl rfl (by decide) ?_
    refine qv_g (pc' := 62) (ls' := [some (.ref m), some (.int (iI x1)), some (.int (iI x2)), some (.int (iI u0)), l4]) (st' := [.int (iI x2), .ref (A 20)]) dX7_order_61 (fun _ _ => rfl) ?_
    obtain ⟨hr1, h⟩ := h
    refine qv_iald dX7_order_62 (by decide) hr1 (by decide) ?_
    exact h
  · have h := h2 c
    refine qv_g (pc' := 46) (ls' := [some (.ref m), some (.int (iI x1)), some (.int (iI x2)), some (.int (iI u0)), l4]) (st' := [.ref m]) dX7_order_45 (fun _ _ => rfl) ?_
    refine qv_getA dX7_order_46 rfl rfl (by decide) ?_
    refine qv_g (pc' := 50) (ls' := [some (.ref m), some (.int (iI x1)), some (.int (iI x2)), some (.int (iI u0)), l4]) (st' := [.int (iI x2), .ref (A 20)]) dX7_order_49 (fun _ _ => rfl) ?_
    obtain ⟨hr2, h⟩ := h
    refine qv_iald dX7_order_50 (by decide) hr2 (by decide) ?_
    exact qv_call dX7_order_51 (fun _ _ => ex_calS rfl (by decide)) rfl (Nat.le_of_ble_eq_true rfl) (Nat.le_of_ble_eq_true rfl) (Nat.le_of_ble_eq_true rfl) (fun _ _ => rfl) rfl rfl rfl h
theorem v120_54 {v : VS} {Q : Rs → VS → Prop} {x1 : Int} {x2 : Int} {x3 : Int} {l4 : Option Value} {u0 : Int}
    (h : RW g C S m A 120 63 [some (.ref m), some (.int (iI x1)), some (.int (iI x2)), some (.int (iI x3)), l4] [.int (iI u0)] v Q) (hx1 : (-2147483648 : Int) ≤ x1 ∧ x1 ≤ 2147483647 := by omega) (hx2 : (-2147483648 : Int) ≤ x2 ∧ x2 ≤ 2147483647 := by omega) (hx3 : (-2147483648 : Int) ≤ x3 ∧ x3 ≤ 2147483647 := by omega) (hu0 : (-2147483648 : Int) ≤ u0 ∧ u0 ≤ 2147483647 := by omega) :
    RW g C S m A 120 54 [some (.ref m), some (.int (iI x1)), some (.int (iI x2)), some (.int (iI x3)), l4] [.int (iI u0)] v Q := by
  refine qv_R (fun hvv => ?_)
  refine qv_goto (t := 63) dX7_order_54 (by decide) ?_
  exact h
theorem v120_63 {v : VS} {Q : Rs → VS → Prop} {x1 : Int} {x2 : Int} {x3 : Int} {l4 : Option Value} {u0 : Int}
    (h : (x3 = u0 → ((-2147483648 : Int) ≤ x2 + 1 ∧ x2 + 1 ≤ 2147483647) ∧ RW g C S m A 120 2 [some (.ref m), some (.int (iI x1)), some (.int (iI (x2 + 1))), some (.int (iI x3)), some (.int (iI u0))] [] v Q) ∧ (¬ x3 = u0 → ((-2147483648 : Int) ≤ x3 - u0 ∧ x3 - u0 ≤ 2147483647) ∧ Q (Sum.inl (some (.int (iI (x3 - u0))))) v)) (hx1 : (-2147483648 : Int) ≤ x1 ∧ x1 ≤ 2147483647 := by omega) (hx2 : (-2147483648 : Int) ≤ x2 ∧ x2 ≤ 2147483647 := by omega) (hx3 : (-2147483648 : Int) ≤ x3 ∧ x3 ≤ 2147483647 := by omega) (hu0 : (-2147483648 : Int) ≤ u0 ∧ u0 ≤ 2147483647 := by omega) :
    RW g C S m A 120 63 [some (.ref m), some (.int (iI x1)), some (.int (iI x2)), some (.int (iI x3)), l4] [.int (iI u0)] v Q := by
  refine qv_R (fun hvv => ?_)
  refine qv_g (pc' := 65) (ls' := [some (.ref m), some (.int (iI x1)), some (.int (iI x2)), some (.int (iI x3)), some (.int (iI u0))]) (st' := []) dX7_order_63 (fun _ _ => rfl) ?_
  refine qv_g (pc' := 66) (ls' := [some (.ref m), some (.int (iI x1)), some (.int (iI x2)), some (.int (iI x3)), some (.int (iI u0))]) (st' := [.int (iI x3)]) dX7_order_65 (fun _ _ => rfl) ?_
  refine qv_g (pc' := 68) (ls' := [some (.ref m), some (.int (iI x1)), some (.int (iI x2)), some (.int (iI x3)), some (.int (iI u0))]) (st' := [.int (iI u0), .int (iI x3)]) dX7_order_66 (fun _ _ => rfl) ?_
  obtain ⟨h1, h2⟩ := h
  refine qv_icmp (t := 76) dX7_order_68 (by decide) (d_eq hx3 hu0) (fun c => ?_) (fun c => ?_)
  · have h := h1 c
    obtain ⟨hr1, h⟩ := h
    refine qv_inc (ls' := [some (.ref m), some (.int (iI x1)), some (.int (iI (x2 + 1))), some (.int (iI x3)), some (.int (iI u0))]) dX7_order_76 rfl (Nat.le_of_ble_eq_true rfl) rfl ?_
    refine qv_goto (t := 2) dX7_order_79 (by decide) ?_
    exact h
  · have h := h2 c
    refine qv_g (pc' := 72) (ls' := [some (.ref m), some (.int (iI x1)), some (.int (iI x2)), some (.int (iI x3)), some (.int (iI u0))]) (st' := [.int (iI x3)]) dX7_order_71 (fun _ _ => rfl) ?_
    refine qv_g (pc' := 74) (ls' := [some (.ref m), some (.int (iI x1)), some (.int (iI x2)), some (.int (iI x3)), some (.int (iI u0))]) (st' := [.int (iI u0), .int (iI x3)]) dX7_order_72 (fun _ _ => rfl) ?_
    obtain ⟨hr2, h⟩ := h
    refine qv_sub dX7_order_74 ?_
    exact qv_ret dX7_order_75 rfl h
theorem v120_82 {v : VS} {Q : Rs → VS → Prop} {l1 : Option Value} {l2 : Option Value} {l3 : Option Value} {l4 : Option Value}
    (h : ((-2147483648 : Int) ≤ (v 23 0) - (v 21 0) ∧ (v 23 0) - (v 21 0) ≤ 2147483647) ∧ Q (Sum.inl (some (.int (iI ((v 23 0) - (v 21 0)))))) v)  :
    RW g C S m A 120 82 [some (.ref m), l1, l2, l3, l4] [] v Q := by
  refine qv_R (fun hvv => ?_)
  refine qv_g (pc' := 83) (ls' := [some (.ref m), l1, l2, l3, l4]) (st' := [.ref m]) dX7_order_82 (fun _ _ => rfl) ?_
  refine qv_getI dX7_order_83 rfl rfl rfl ?_
  refine qv_g (pc' := 87) (ls' := [some (.ref m), l1, l2, l3, l4]) (st' := [.ref m, .int (iI (v 23 0))]) dX7_order_86 (fun _ _ => rfl) ?_
  refine qv_getI dX7_order_87 rfl rfl rfl ?_
  obtain ⟨hr1, h⟩ := h
  refine qv_sub dX7_order_90 ?_
  exact qv_ret dX7_order_91 rfl h
theorem v121_0 {v : VS} {Q : Rs → VS → Prop} {x1 : Int} {x2 : Int}
    (h : (∀ w1, w1 = uv v 21 0 0 → RW g C S m A 115 0 [some (.ref m), some (.int (iI 0)), some (.int (iI x1)), some (.int (iI x2)), some (.int (iI 1000)), none, none, none, none] [] w1 (VK g C S m A 121 15 [some (.ref m), some (.int (iI x1)), some (.int (iI x2))] [] Q))) (hx1 : (-2147483648 : Int) ≤ x1 ∧ x1 ≤ 2147483647 := by omega) (hx2 : (-2147483648 : Int) ≤ x2 ∧ x2 ≤ 2147483647 := by omega) :
    RW g C S m A 121 0 [some (.ref m), some (.int (iI x1)), some (.int (iI x2))] [] v Q := by
  refine qv_R (fun hvv => ?_)
  refine qv_g (pc' := 1) (ls' := [some (.ref m), some (.int (iI x1)), some (.int (iI x2))]) (st' := [.ref m]) dX7_orderOfPart_0 (fun _ _ => rfl) ?_
  refine qv_ic dX7_orderOfPart_1 ?_
  refine qv_putI dX7_orderOfPart_2 rfl rfl (Or.inl rfl) rfl (Or.inl rfl) (by decide) ?_
  generalize ew1 : uv v 21 0 0 = w1
  replace h := h _ ew1.symm
  refine qv_R (fun hvw1 => ?_)
  refine qv_g (pc' := 6) (ls' := [some (.ref m), some (.int (iI x1)), some (.int (iI x2))]) (st' := [.ref m]) dX7_orderOfPart_5 (fun _ _ => rfl) ?_
  refine qv_ic dX7_orderOfPart_6 ?_
  refine qv_g (pc' := 8) (ls' := [some (.ref m), some (.int (iI x1)), some (.int (iI x2))]) (st' := [.int (iI x1), .int (iI 0), .ref m]) dX7_orderOfPart_7 (fun _ _ => rfl) ?_
  refine qv_g (pc' := 9) (ls' := [some (.ref m), some (.int (iI x1)), some (.int (iI x2))]) (st' := [.int (iI x2), .int (iI x1), .int (iI 0), .ref m]) dX7_orderOfPart_8 (fun _ _ => rfl) ?_
  refine qv_si dX7_orderOfPart_9 (by decide) ?_
  exact qv_call dX7_orderOfPart_12 (fun _ _ => ex_calV rfl (by decide)) rfl (Nat.le_of_ble_eq_true rfl) (Nat.le_of_ble_eq_true rfl) (Nat.le_of_ble_eq_true rfl) (fun _ hm => rcv0 rfl rfl (by decide) hm) rfl rfl rfl h
theorem v121_15 {v : VS} {Q : Rs → VS → Prop} {x1 : Int} {x2 : Int}
    (h : RW g C S m A 119 0 [some (.ref m), none] [] v (VK g C S m A 121 19 [some (.ref m), some (.int (iI x1)), some (.int (iI x2))] [] Q)) (hx1 : (-2147483648 : Int) ≤ x1 ∧ x1 ≤ 2147483647 := by omega) (hx2 : (-2147483648 : Int) ≤ x2 ∧ x2 ≤ 2147483647 := by omega) :
    RW g C S m A 121 15 [some (.ref m), some (.int (iI x1)), some (.int (iI x2))] [] v Q := by
  refine qv_R (fun hvv => ?_)
  refine qv_g (pc' := 16) (ls' := [some (.ref m), some (.int (iI x1)), some (.int (iI x2))]) (st' := [.ref m]) dX7_orderOfPart_15 (fun _ _ => rfl) ?_
  exact qv_call dX7_orderOfPart_16 (fun _ _ => ex_calV rfl (by decide)) rfl (Nat.le_of_ble_eq_true rfl) (Nat.le_of_ble_eq_true rfl) (Nat.le_of_ble_eq_true rfl) (fun _ hm => rcv0 rfl rfl (by decide) hm) rfl rfl rfl h
theorem v121_19 {v : VS} {Q : Rs → VS → Prop} {x1 : Int} {x2 : Int}
    (h : RW g C S m A 115 0 [some (.ref m), some (.int (iI 1)), some (.int (iI x1)), some (.int (iI x2)), some (.int (iI 1000)), none, none, none, none] [] v (VK g C S m A 121 29 [some (.ref m), some (.int (iI x1)), some (.int (iI x2))] [] Q)) (hx1 : (-2147483648 : Int) ≤ x1 ∧ x1 ≤ 2147483647 := by omega) (hx2 : (-2147483648 : Int) ≤ x2 ∧ x2 ≤ 2147483647 := by omega) :
    RW g C S m A 121 19 [some (.ref m), some (.int (iI x1)), some (.int (iI x2))] [] v Q := by
  refine qv_R (fun hvv => ?_)
  refine qv_g (pc' := 20) (ls' := [some (.ref m), some (.int (iI x1)), some (.int (iI x2))]) (st' := [.ref m]) dX7_orderOfPart_19 (fun _ _ => rfl) ?_
  refine qv_ic dX7_orderOfPart_20 ?_
  refine qv_g (pc' := 22) (ls' := [some (.ref m), some (.int (iI x1)), some (.int (iI x2))]) (st' := [.int (iI x1), .int (iI 1), .ref m]) dX7_orderOfPart_21 (fun _ _ => rfl) ?_
  refine qv_g (pc' := 23) (ls' := [some (.ref m), some (.int (iI x1)), some (.int (iI x2))]) (st' := [.int (iI x2), .int (iI x1), .int (iI 1), .ref m]) dX7_orderOfPart_22 (fun _ _ => rfl) ?_
  refine qv_si dX7_orderOfPart_23 (by decide) ?_
  exact qv_call dX7_orderOfPart_26 (fun _ _ => ex_calV rfl (by decide)) rfl (Nat.le_of_ble_eq_true rfl) (Nat.le_of_ble_eq_true rfl) (Nat.le_of_ble_eq_true rfl) (fun _ hm => rcv0 rfl rfl (by decide) hm) rfl rfl rfl h
theorem v121_29 {v : VS} {Q : Rs → VS → Prop} {l1 : Option Value} {l2 : Option Value}
    (h : RW g C S m A 120 0 [some (.ref m), some (.int (iI 1)), none, none, none] [] v (VK g C S m A 121 34 [some (.ref m), l1, l2] [] Q))  :
    RW g C S m A 121 29 [some (.ref m), l1, l2] [] v Q := by
  refine qv_R (fun hvv => ?_)
  refine qv_g (pc' := 30) (ls' := [some (.ref m), l1, l2]) (st' := [.ref m]) dX7_orderOfPart_29 (fun _ _ => rfl) ?_
  refine qv_ic dX7_orderOfPart_30 ?_
  exact qv_call dX7_orderOfPart_31 (fun _ _ => ex_calV rfl (by decide)) rfl (Nat.le_of_ble_eq_true rfl) (Nat.le_of_ble_eq_true rfl) (Nat.le_of_ble_eq_true rfl) (fun _ hm => rcv0 rfl rfl (by decide) hm) rfl rfl rfl h
theorem v121_34 {v : VS} {Q : Rs → VS → Prop} {l0 : Option Value} {l1 : Option Value} {l2 : Option Value} {u0 : Int}
    (h : Q (Sum.inl (some (.int (iI u0)))) v) (hu0 : (-2147483648 : Int) ≤ u0 ∧ u0 ≤ 2147483647 := by omega) :
    RW g C S m A 121 34 [l0, l1, l2] [.int (iI u0)] v Q := by
  refine qv_R (fun hvv => ?_)
  exact qv_ret dX7_orderOfPart_34 rfl h
theorem v122_0 {v : VS} {Q : Rs → VS → Prop} {x1 : Int} {x2 : Int} {l3 : Option Value} {l4 : Option Value}
    (h : RW g C S m A 110 0 [some (.ref m), some (.int (iI 0)), some (.int (iI x1)), none, none, none, none, none, none, none, none, none, none, none] [] v (VK g C S m A 122 6 [some (.ref m), some (.int (iI x1)), some (.int (iI x2)), l3, l4] [] Q)) (hx1 : (-2147483648 : Int) ≤ x1 ∧ x1 ≤ 2147483647 := by omega) (hx2 : (-2147483648 : Int) ≤ x2 ∧ x2 ≤ 2147483647 := by omega) :
    RW g C S m A 122 0 [some (.ref m), some (.int (iI x1)), some (.int (iI x2)), l3, l4] [] v Q := by
  refine qv_R (fun hvv => ?_)
  refine qv_g (pc' := 1) (ls' := [some (.ref m), some (.int (iI x1)), some (.int (iI x2)), l3, l4]) (st' := [.ref m]) dX7_orderOfPersons_0 (fun _ _ => rfl) ?_
  refine qv_ic dX7_orderOfPersons_1 ?_
  refine qv_g (pc' := 3) (ls' := [some (.ref m), some (.int (iI x1)), some (.int (iI x2)), l3, l4]) (st' := [.int (iI x1), .int (iI 0), .ref m]) dX7_orderOfPersons_2 (fun _ _ => rfl) ?_
  exact qv_call dX7_orderOfPersons_3 (fun _ _ => ex_calV rfl (by decide)) rfl (Nat.le_of_ble_eq_true rfl) (Nat.le_of_ble_eq_true rfl) (Nat.le_of_ble_eq_true rfl) (fun _ hm => rcv0 rfl rfl (by decide) hm) rfl rfl rfl h
theorem v122_6 {v : VS} {Q : Rs → VS → Prop} {l1 : Option Value} {x2 : Int} {l3 : Option Value} {l4 : Option Value}
    (h : RW g C S m A 110 0 [some (.ref m), some (.int (iI 1)), some (.int (iI x2)), none, none, none, none, none, none, none, none, none, none, none] [] v (VK g C S m A 122 12 [some (.ref m), l1, some (.int (iI x2)), l3, l4] [] Q)) (hx2 : (-2147483648 : Int) ≤ x2 ∧ x2 ≤ 2147483647 := by omega) :
    RW g C S m A 122 6 [some (.ref m), l1, some (.int (iI x2)), l3, l4] [] v Q := by
  refine qv_R (fun hvv => ?_)
  refine qv_g (pc' := 7) (ls' := [some (.ref m), l1, some (.int (iI x2)), l3, l4]) (st' := [.ref m]) dX7_orderOfPersons_6 (fun _ _ => rfl) ?_
  refine qv_ic dX7_orderOfPersons_7 ?_
  refine qv_g (pc' := 9) (ls' := [some (.ref m), l1, some (.int (iI x2)), l3, l4]) (st' := [.int (iI x2), .int (iI 1), .ref m]) dX7_orderOfPersons_8 (fun _ _ => rfl) ?_
  exact qv_call dX7_orderOfPersons_9 (fun _ _ => ex_calV rfl (by decide)) rfl (Nat.le_of_ble_eq_true rfl) (Nat.le_of_ble_eq_true rfl) (Nat.le_of_ble_eq_true rfl) (fun _ hm => rcv0 rfl rfl (by decide) hm) rfl rfl rfl h
theorem v122_12 {v : VS} {Q : Rs → VS → Prop} {l1 : Option Value} {l2 : Option Value} {l3 : Option Value} {l4 : Option Value}
    (h : RW g C S m A 122 14 [some (.ref m), l1, (clr l2), some (.int (iI 0)), l4] [] v Q)  :
    RW g C S m A 122 12 [some (.ref m), l1, l2, l3, l4] [] v Q := by
  refine qv_R (fun hvv => ?_)
  refine qv_ic dX7_orderOfPersons_12 ?_
  refine qv_g (pc' := 14) (ls' := [some (.ref m), l1, (clr l2), some (.int (iI 0)), l4]) (st' := []) dX7_orderOfPersons_13 (fun _ _ => rfl) ?_
  exact h
theorem v122_14 {v : VS} {Q : Rs → VS → Prop} {l1 : Option Value} {l2 : Option Value} {x3 : Int} {l4 : Option Value}
    (h : ((0 : Int) ≤ 0 ∧ (0 : Int) < 2) ∧ (v 19 0 ≤ x3 → RW g C S m A 122 92 [some (.ref m), l1, l2, some (.int (iI x3)), l4] [] v Q) ∧ (x3 < v 19 0 → ((0 : Int) ≤ 1 ∧ (1 : Int) < 2) ∧ (v 19 1 ≤ x3 → RW g C S m A 122 92 [some (.ref m), l1, l2, some (.int (iI x3)), l4] [] v Q) ∧ (x3 < v 19 1 → RW g C S m A 121 0 [some (.ref m), some (.int (iI x3)), some (.int (iI 2))] [] v (VK g C S m A 122 40 [some (.ref m), l1, l2, some (.int (iI x3)), l4] [] Q)))) (hx3 : (-2147483648 : Int) ≤ x3 ∧ x3 ≤ 2147483647 := by omega) :
    RW g C S m A 122 14 [some (.ref m), l1, l2, some (.int (iI x3)), l4] [] v Q := by
  refine qv_R (fun hvv => ?_)
  refine qv_g (pc' := 15) (ls' := [some (.ref m), l1, l2, some (.int (iI x3)), l4]) (st' := [.int (iI x3)]) dX7_orderOfPersons_14 (fun _ _ => rfl) ?_
  refine qv_g (pc' := 16) (ls' := [some (.ref m), l1, l2, some (.int (iI x3)), l4]) (st' := [.ref m, .int (iI x3)]) dX7_orderOfPersons_15 (fun _ _ => rfl) ?_
  refine qv_getA dX7_orderOfPersons_16 rfl rfl (by decide) ?_
  refine qv_ic dX7_orderOfPersons_19 ?_
  obtain ⟨hr1, h⟩ := h
  refine qv_iald dX7_orderOfPersons_20 (by decide) hr1 (by decide) ?_
  obtain ⟨h1, h2⟩ := h
  refine qv_icmp (t := 92) dX7_orderOfPersons_21 (by decide) (d_ge hx3 (hvv _ _)) (fun c => ?_) (fun c => ?_)
  · have h := h1 c
    exact h
  · have h := h2 (Int.not_le.mp c)
    refine qv_g (pc' := 25) (ls' := [some (.ref m), l1, l2, some (.int (iI x3)), l4]) (st' := [.int (iI x3)]) dX7_orderOfPersons_24 (fun _ _ => rfl) ?_
    refine qv_g (pc' := 26) (ls' := [some (.ref m), l1, l2, some (.int (iI x3)), l4]) (st' := [.ref m, .int (iI x3)]) dX7_orderOfPersons_25 (fun _ _ => rfl) ?_
    refine qv_getA dX7_orderOfPersons_26 rfl rfl (by decide) ?_
    refine qv_ic dX7_orderOfPersons_29 ?_
    obtain ⟨hr2, h⟩ := h
    refine qv_iald dX7_orderOfPersons_30 (by decide) hr2 (by decide) ?_
    obtain ⟨h1, h2⟩ := h
    refine qv_icmp (t := 92) dX7_orderOfPersons_31 (by decide) (d_ge hx3 (hvv _ _)) (fun c => ?_) (fun c => ?_)
    · have h := h1 c
      exact h
    · have h := h2 (Int.not_le.mp c)
      refine qv_g (pc' := 35) (ls' := [some (.ref m), l1, l2, some (.int (iI x3)), l4]) (st' := [.ref m]) dX7_orderOfPersons_34 (fun _ _ => rfl) ?_
      refine qv_g (pc' := 36) (ls' := [some (.ref m), l1, l2, some (.int (iI x3)), l4]) (st' := [.int (iI x3), .ref m]) dX7_orderOfPersons_35 (fun _ _ => rfl) ?_
      refine qv_ic dX7_orderOfPersons_36 ?_
      exact qv_call dX7_orderOfPersons_37 (fun _ _ => ex_calV rfl (by decide)) rfl (Nat.le_of_ble_eq_true rfl) (Nat.le_of_ble_eq_true rfl) (Nat.le_of_ble_eq_true rfl) (fun _ hm => rcv0 rfl rfl (by decide) hm) rfl rfl rfl h
theorem v122_40 {v : VS} {Q : Rs → VS → Prop} {l1 : Option Value} {l2 : Option Value} {x3 : Int} {l4 : Option Value} {u0 : Int}
    (h : (u0 = 0 → RW g C S m A 121 0 [some (.ref m), some (.int (iI x3)), some (.int (iI 0))] [] v (VK g C S m A 122 58 [some (.ref m), l1, l2, some (.int (iI x3)), some (.int (iI u0))] [] Q)) ∧ (¬ u0 = 0 → RW g C S m A 122 58 [some (.ref m), l1, l2, some (.int (iI x3)), some (.int (iI u0))] [.int (iI u0)] v Q)) (hx3 : (-2147483648 : Int) ≤ x3 ∧ x3 ≤ 2147483647 := by omega) (hu0 : (-2147483648 : Int) ≤ u0 ∧ u0 ≤ 2147483647 := by omega) :
    RW g C S m A 122 40 [some (.ref m), l1, l2, some (.int (iI x3)), l4] [.int (iI u0)] v Q := by
  refine qv_R (fun hvv => ?_)
  refine qv_g (pc' := 42) (ls' := [some (.ref m), l1, l2, some (.int (iI x3)), some (.int (iI u0))]) (st' := []) dX7_orderOfPersons_40 (fun _ _ => rfl) ?_
  refine qv_g (pc' := 44) (ls' := [some (.ref m), l1, l2, some (.int (iI x3)), some (.int (iI u0))]) (st' := [.int (iI u0)]) dX7_orderOfPersons_42 (fun _ _ => rfl) ?_
  obtain ⟨h1, h2⟩ := h
  refine qv_if (t := 52) dX7_orderOfPersons_44 (by decide) (d_eq hu0 (by decide)) (fun c => ?_) (fun c => ?_)
  · have h := h1 c
    refine qv_g (pc' := 53) (ls' := [some (.ref m), l1, l2, some (.int (iI x3)), some (.int (iI u0))]) (st' := [.ref m]) dX7_orderOfPersons_52 (fun _ _ => rfl) ?_
    refine qv_g (pc' := 54) (ls' := [some (.ref m), l1, l2, some (.int (iI x3)), some (.int (iI u0))]) (st' := [.int (iI x3), .ref m]) dX7_orderOfPersons_53 (fun _ _ => rfl) ?_
    refine qv_ic dX7_orderOfPersons_54 ?_
    exact qv_call dX7_orderOfPersons_55 (fun _ _ => ex_calV rfl (by decide)) rfl (Nat.le_of_ble_eq_true rfl) (Nat.le_of_ble_eq_true rfl) (Nat.le_of_ble_eq_true rfl) (fun _ hm => rcv0 rfl rfl (by decide) hm) rfl rfl rfl h
  · have h := h2 c
    refine qv_g (pc' := 49) (ls' := [some (.ref m), l1, l2, some (.int (iI x3)), some (.int (iI u0))]) (st' := [.int (iI u0)]) dX7_orderOfPersons_47 (fun _ _ => rfl) ?_
    refine qv_goto (t := 58) dX7_orderOfPersons_49 (by decide) ?_
    exact h
theorem v122_58 {v : VS} {Q : Rs → VS → Prop} {l1 : Option Value} {l2 : Option Value} {x3 : Int} {l4 : Option Value} {u0 : Int}
    (h : (u0 = 0 → RW g C S m A 121 0 [some (.ref m), some (.int (iI x3)), some (.int (iI 1))] [] v (VK g C S m A 122 76 [some (.ref m), l1, l2, some (.int (iI x3)), some (.int (iI u0))] [] Q)) ∧ (¬ u0 = 0 → RW g C S m A 122 76 [some (.ref m), l1, l2, some (.int (iI x3)), some (.int (iI u0))] [.int (iI u0)] v Q)) (hx3 : (-2147483648 : Int) ≤ x3 ∧ x3 ≤ 2147483647 := by omega) (hu0 : (-2147483648 : Int) ≤ u0 ∧ u0 ≤ 2147483647 := by omega) :
    RW g C S m A 122 58 [some (.ref m), l1, l2, some (.int (iI x3)), l4] [.int (iI u0)] v Q := by
  refine qv_R (fun hvv => ?_)
  refine qv_g (pc' := 60) (ls' := [some (.ref m), l1, l2, some (.int (iI x3)), some (.int (iI u0))]) (st' := []) dX7_orderOfPersons_58 (fun _ _ => rfl) ?_
  refine qv_g (pc' := 62) (ls' := [some (.ref m), l1, l2, some (.int (iI x3)), some (.int (iI u0))]) (st' := [.int (iI u0)]) dX7_orderOfPersons_60 (fun _ _ => rfl) ?_
  obtain ⟨h1, h2⟩ := h
  refine qv_if (t := 70) dX7_orderOfPersons_62 (by decide) (d_eq hu0 (by decide)) (fun c => ?_) (fun c => ?_)
  · have h := h1 c
    refine qv_g (pc' := 71) (ls' := [some (.ref m), l1, l2, some (.int (iI x3)), some (.int (iI u0))]) (st' := [.ref m]) dX7_orderOfPersons_70 (fun _ _ => rfl) ?_
    refine qv_g (pc' := 72) (ls' := [some (.ref m), l1, l2, some (.int (iI x3)), some (.int (iI u0))]) (st' := [.int (iI x3), .ref m]) dX7_orderOfPersons_71 (fun _ _ => rfl) ?_
    refine qv_ic dX7_orderOfPersons_72 ?_
    exact qv_call dX7_orderOfPersons_73 (fun _ _ => ex_calV rfl (by decide)) rfl (Nat.le_of_ble_eq_true rfl) (Nat.le_of_ble_eq_true rfl) (Nat.le_of_ble_eq_true rfl) (fun _ hm => rcv0 rfl rfl (by decide) hm) rfl rfl rfl h
  · have h := h2 c
    refine qv_g (pc' := 67) (ls' := [some (.ref m), l1, l2, some (.int (iI x3)), some (.int (iI u0))]) (st' := [.int (iI u0)]) dX7_orderOfPersons_65 (fun _ _ => rfl) ?_
    refine qv_goto (t := 76) dX7_orderOfPersons_67 (by decide) ?_
    exact h
theorem v122_76 {v : VS} {Q : Rs → VS → Prop} {l1 : Option Value} {l2 : Option Value} {x3 : Int} {l4 : Option Value} {u0 : Int}
    (h : (u0 = 0 → ((-2147483648 : Int) ≤ x3 + 1 ∧ x3 + 1 ≤ 2147483647) ∧ RW g C S m A 122 14 [some (.ref m), l1, (clr l2), some (.int (iI (x3 + 1))), some (.int (iI u0))] [] v Q) ∧ (¬ u0 = 0 → Q (Sum.inl (some (.int (iI u0)))) v)) (hx3 : (-2147483648 : Int) ≤ x3 ∧ x3 ≤ 2147483647 := by omega) (hu0 : (-2147483648 : Int) ≤ u0 ∧ u0 ≤ 2147483647 := by omega) :
    RW g C S m A 122 76 [some (.ref m), l1, l2, some (.int (iI x3)), l4] [.int (iI u0)] v Q := by
  refine qv_R (fun hvv => ?_)
  refine qv_g (pc' := 78) (ls' := [some (.ref m), l1, l2, some (.int (iI x3)), some (.int (iI u0))]) (st' := []) dX7_orderOfPersons_76 (fun _ _ => rfl) ?_
  refine qv_g (pc' := 80) (ls' := [some (.ref m), l1, l2, some (.int (iI x3)), some (.int (iI u0))]) (st' := [.int (iI u0)]) dX7_orderOfPersons_78 (fun _ _ => rfl) ?_
  obtain ⟨h1, h2⟩ := h
  refine qv_if (t := 86) dX7_orderOfPersons_80 (by decide) (d_eq hu0 (by decide)) (fun c => ?_) (fun c => ?_)
  · have h := h1 c
    obtain ⟨hr1, h⟩ := h
    refine qv_inc (ls' := [some (.ref m), l1, (clr l2), some (.int (iI (x3 + 1))), some (.int (iI u0))]) dX7_orderOfPersons_86 rfl (Nat.le_of_ble_eq_true rfl) rfl ?_
    refine qv_goto (t := 14) dX7_orderOfPersons_89 (by decide) ?_
    exact h
  · have h := h2 c
    refine qv_g (pc' := 85) (ls' := [some (.ref m), l1, l2, some (.int (iI x3)), some (.int (iI u0))]) (st' := [.int (iI u0)]) dX7_orderOfPersons_83 (fun _ _ => rfl) ?_
    exact qv_ret dX7_orderOfPersons_85 rfl h
theorem v122_92 {v : VS} {Q : Rs → VS → Prop} {l1 : Option Value} {l2 : Option Value} {l3 : Option Value} {l4 : Option Value}
    (h : ((0 : Int) ≤ 0 ∧ (0 : Int) < 2) ∧ ((0 : Int) ≤ 1 ∧ (1 : Int) < 2) ∧ ((-2147483648 : Int) ≤ (v 19 0) - (v 19 1) ∧ (v 19 0) - (v 19 1) ≤ 2147483647) ∧ Q (Sum.inl (some (.int (iI ((v 19 0) - (v 19 1)))))) v)  :
    RW g C S m A 122 92 [some (.ref m), l1, l2, l3, l4] [] v Q := by
  refine qv_R (fun hvv => ?_)
  refine qv_g (pc' := 93) (ls' := [some (.ref m), l1, l2, l3, l4]) (st' := [.ref m]) dX7_orderOfPersons_92 (fun _ _ => rfl) ?_
  refine qv_getA dX7_orderOfPersons_93 rfl rfl (by decide) ?_
  refine qv_ic dX7_orderOfPersons_96 ?_
  obtain ⟨hr1, h⟩ := h
  refine qv_iald dX7_orderOfPersons_97 (by decide) hr1 (by decide) ?_
  refine qv_g (pc' := 99) (ls' := [some (.ref m), l1, l2, l3, l4]) (st' := [.ref m, .int (iI (v 19 0))]) dX7_orderOfPersons_98 (fun _ _ => rfl) ?_
  refine qv_getA dX7_orderOfPersons_99 rfl rfl (by decide) ?_
  refine qv_ic dX7_orderOfPersons_102 ?_
  obtain ⟨hr2, h⟩ := h
  refine qv_iald dX7_orderOfPersons_103 (by decide) hr2 (by decide) ?_
  obtain ⟨hr3, h⟩ := h
  refine qv_sub dX7_orderOfPersons_104 ?_
  exact qv_ret dX7_orderOfPersons_105 rfl h
theorem v123_0 {v : VS} {Q : Rs → VS → Prop} {x1 : Int} {x2 : Int} {x3 : Int}
    (h : (∀ w1, w1 = uv v 21 0 0 → RW g C S m A 103 0 [some (.ref m), some (.int (iI x1)), some (.int (iI x3)), none] [] w1 (VK g C S m A 123 12 [some (.ref m), some (.int (iI x1)), some (.int (iI x2)), some (.int (iI x3))] [.ref m] Q))) (hx1 : (-2147483648 : Int) ≤ x1 ∧ x1 ≤ 2147483647 := by omega) (hx2 : (-2147483648 : Int) ≤ x2 ∧ x2 ≤ 2147483647 := by omega) (hx3 : (-2147483648 : Int) ≤ x3 ∧ x3 ≤ 2147483647 := by omega) :
    RW g C S m A 123 0 [some (.ref m), some (.int (iI x1)), some (.int (iI x2)), some (.int (iI x3))] [] v Q := by
  refine qv_R (fun hvv => ?_)
  refine qv_g (pc' := 1) (ls' := [some (.ref m), some (.int (iI x1)), some (.int (iI x2)), some (.int (iI x3))]) (st' := [.ref m]) dX7_orderOfField_0 (fun _ _ => rfl) ?_
  refine qv_ic dX7_orderOfField_1 ?_
  refine qv_putI dX7_orderOfField_2 rfl rfl (Or.inl rfl) rfl (Or.inl rfl) (by decide) ?_
  generalize ew1 : uv v 21 0 0 = w1
  replace h := h _ ew1.symm
  refine qv_R (fun hvw1 => ?_)
  refine qv_g (pc' := 6) (ls' := [some (.ref m), some (.int (iI x1)), some (.int (iI x2)), some (.int (iI x3))]) (st' := [.ref m]) dX7_orderOfField_5 (fun _ _ => rfl) ?_
  refine qv_g (pc' := 7) (ls' := [some (.ref m), some (.int (iI x1)), some (.int (iI x2)), some (.int (iI x3))]) (st' := [.ref m, .ref m]) dX7_orderOfField_6 (fun _ _ => rfl) ?_
  refine qv_g (pc' := 8) (ls' := [some (.ref m), some (.int (iI x1)), some (.int (iI x2)), some (.int (iI x3))]) (st' := [.int (iI x1), .ref m, .ref m]) dX7_orderOfField_7 (fun _ _ => rfl) ?_
  refine qv_g (pc' := 9) (ls' := [some (.ref m), some (.int (iI x1)), some (.int (iI x2)), some (.int (iI x3))]) (st' := [.int (iI x3), .int (iI x1), .ref m, .ref m]) dX7_orderOfField_8 (fun _ _ => rfl) ?_
  exact qv_call dX7_orderOfField_9 (fun _ _ => ex_calV rfl (by decide)) rfl (Nat.le_of_ble_eq_true rfl) (Nat.le_of_ble_eq_true rfl) (Nat.le_of_ble_eq_true rfl) (fun _ hm => rcv0 rfl rfl (by decide) hm) rfl rfl rfl h
theorem v123_12 {v : VS} {Q : Rs → VS → Prop} {l1 : Option Value} {x2 : Int} {x3 : Int} {u0 : Int}
    (h : RW g C S m A 113 0 [some (.ref m), some (.int (iI u0)), none] [] v (VK g C S m A 123 15 [some (.ref m), l1, some (.int (iI x2)), some (.int (iI x3))] [] Q)) (hx2 : (-2147483648 : Int) ≤ x2 ∧ x2 ≤ 2147483647 := by omega) (hx3 : (-2147483648 : Int) ≤ x3 ∧ x3 ≤ 2147483647 := by omega) (hu0 : (-2147483648 : Int) ≤ u0 ∧ u0 ≤ 2147483647 := by omega) :
    RW g C S m A 123 12 [some (.ref m), l1, some (.int (iI x2)), some (.int (iI x3))] [.int (iI u0), .ref m] v Q := by
  refine qv_R (fun hvv => ?_)
  exact qv_call dX7_orderOfField_12 (fun _ _ => ex_calV rfl (by decide)) rfl (Nat.le_of_ble_eq_true rfl) (Nat.le_of_ble_eq_true rfl) (Nat.le_of_ble_eq_true rfl) (fun _ hm => rcv0 rfl rfl (by decide) hm) rfl rfl rfl h
theorem v123_15 {v : VS} {Q : Rs → VS → Prop} {l1 : Option Value} {x2 : Int} {x3 : Int}
    (h : RW g C S m A 119 0 [some (.ref m), none] [] v (VK g C S m A 123 19 [some (.ref m), l1, some (.int (iI x2)), some (.int (iI x3))] [] Q)) (hx2 : (-2147483648 : Int) ≤ x2 ∧ x2 ≤ 2147483647 := by omega) (hx3 : (-2147483648 : Int) ≤ x3 ∧ x3 ≤ 2147483647 := by omega) :
    RW g C S m A 123 15 [some (.ref m), l1, some (.int (iI x2)), some (.int (iI x3))] [] v Q := by
  refine qv_R (fun hvv => ?_)
  refine qv_g (pc' := 16) (ls' := [some (.ref m), l1, some (.int (iI x2)), some (.int (iI x3))]) (st' := [.ref m]) dX7_orderOfField_15 (fun _ _ => rfl) ?_
  exact qv_call dX7_orderOfField_16 (fun _ _ => ex_calV rfl (by decide)) rfl (Nat.le_of_ble_eq_true rfl) (Nat.le_of_ble_eq_true rfl) (Nat.le_of_ble_eq_true rfl) (fun _ hm => rcv0 rfl rfl (by decide) hm) rfl rfl rfl h
theorem v123_19 {v : VS} {Q : Rs → VS → Prop} {l1 : Option Value} {x2 : Int} {x3 : Int}
    (h : RW g C S m A 103 0 [some (.ref m), some (.int (iI x2)), some (.int (iI x3)), none] [] v (VK g C S m A 123 26 [some (.ref m), l1, some (.int (iI x2)), some (.int (iI x3))] [.ref m] Q)) (hx2 : (-2147483648 : Int) ≤ x2 ∧ x2 ≤ 2147483647 := by omega) (hx3 : (-2147483648 : Int) ≤ x3 ∧ x3 ≤ 2147483647 := by omega) :
    RW g C S m A 123 19 [some (.ref m), l1, some (.int (iI x2)), some (.int (iI x3))] [] v Q := by
  refine qv_R (fun hvv => ?_)
  refine qv_g (pc' := 20) (ls' := [some (.ref m), l1, some (.int (iI x2)), some (.int (iI x3))]) (st' := [.ref m]) dX7_orderOfField_19 (fun _ _ => rfl) ?_
  refine qv_g (pc' := 21) (ls' := [some (.ref m), l1, some (.int (iI x2)), some (.int (iI x3))]) (st' := [.ref m, .ref m]) dX7_orderOfField_20 (fun _ _ => rfl) ?_
  refine qv_g (pc' := 22) (ls' := [some (.ref m), l1, some (.int (iI x2)), some (.int (iI x3))]) (st' := [.int (iI x2), .ref m, .ref m]) dX7_orderOfField_21 (fun _ _ => rfl) ?_
  refine qv_g (pc' := 23) (ls' := [some (.ref m), l1, some (.int (iI x2)), some (.int (iI x3))]) (st' := [.int (iI x3), .int (iI x2), .ref m, .ref m]) dX7_orderOfField_22 (fun _ _ => rfl) ?_
  exact qv_call dX7_orderOfField_23 (fun _ _ => ex_calV rfl (by decide)) rfl (Nat.le_of_ble_eq_true rfl) (Nat.le_of_ble_eq_true rfl) (Nat.le_of_ble_eq_true rfl) (fun _ hm => rcv0 rfl rfl (by decide) hm) rfl rfl rfl h
theorem v123_26 {v : VS} {Q : Rs → VS → Prop} {l1 : Option Value} {l2 : Option Value} {l3 : Option Value} {u0 : Int}
    (h : RW g C S m A 113 0 [some (.ref m), some (.int (iI u0)), none] [] v (VK g C S m A 123 29 [some (.ref m), l1, l2, l3] [] Q)) (hu0 : (-2147483648 : Int) ≤ u0 ∧ u0 ≤ 2147483647 := by omega) :
    RW g C S m A 123 26 [some (.ref m), l1, l2, l3] [.int (iI u0), .ref m] v Q := by
  refine qv_R (fun hvv => ?_)
  exact qv_call dX7_orderOfField_26 (fun _ _ => ex_calV rfl (by decide)) rfl (Nat.le_of_ble_eq_true rfl) (Nat.le_of_ble_eq_true rfl) (Nat.le_of_ble_eq_true rfl) (fun _ hm => rcv0 rfl rfl (by decide) hm) rfl rfl rfl h
theorem v123_29 {v : VS} {Q : Rs → VS → Prop} {l1 : Option Value} {l2 : Option Value} {l3 : Option Value}
    (h : RW g C S m A 120 0 [some (.ref m), some (.int (iI 1)), none, none, none] [] v (VK g C S m A 123 34 [some (.ref m), l1, l2, l3] [] Q))  :
    RW g C S m A 123 29 [some (.ref m), l1, l2, l3] [] v Q := by
  refine qv_R (fun hvv => ?_)
  refine qv_g (pc' := 30) (ls' := [some (.ref m), l1, l2, l3]) (st' := [.ref m]) dX7_orderOfField_29 (fun _ _ => rfl) ?_
  refine qv_ic dX7_orderOfField_30 ?_
  exact qv_call dX7_orderOfField_31 (fun _ _ => ex_calV rfl (by decide)) rfl (Nat.le_of_ble_eq_true rfl) (Nat.le_of_ble_eq_true rfl) (Nat.le_of_ble_eq_true rfl) (fun _ hm => rcv0 rfl rfl (by decide) hm) rfl rfl rfl h
theorem v123_34 {v : VS} {Q : Rs → VS → Prop} {l0 : Option Value} {l1 : Option Value} {l2 : Option Value} {l3 : Option Value} {u0 : Int}
    (h : Q (Sum.inl (some (.int (iI u0)))) v) (hu0 : (-2147483648 : Int) ≤ u0 ∧ u0 ≤ 2147483647 := by omega) :
    RW g C S m A 123 34 [l0, l1, l2, l3] [.int (iI u0)] v Q := by
  refine qv_R (fun hvv => ?_)
  exact qv_ret dX7_orderOfField_34 rfl h
theorem v124_0 {v : VS} {Q : Rs → VS → Prop} {x1 : Int} {x2 : Int} {l3 : Option Value}
    (h : (¬ v 11 0 = 1 → RW g C S m A 123 0 [some (.ref m), some (.int (iI x1)), some (.int (iI x2)), some (.int (iI 2))] [] v (VK g C S m A 124 24 [some (.ref m), some (.int (iI x1)), some (.int (iI x2)), l3] [] Q)) ∧ (v 11 0 = 1 → RW g C S m A 122 0 [some (.ref m), some (.int (iI x1)), some (.int (iI x2)), none, none] [] v (VK g C S m A 124 14 [some (.ref m), some (.int (iI x1)), some (.int (iI x2)), l3] [] Q))) (hx1 : (-2147483648 : Int) ≤ x1 ∧ x1 ≤ 2147483647 := by omega) (hx2 : (-2147483648 : Int) ≤ x2 ∧ x2 ≤ 2147483647 := by omega) :
    RW g C S m A 124 0 [some (.ref m), some (.int (iI x1)), some (.int (iI x2)), l3] [] v Q := by
  refine qv_R (fun hvv => ?_)
  refine qv_g (pc' := 1) (ls' := [some (.ref m), some (.int (iI x1)), some (.int (iI x2)), l3]) (st' := [.ref m]) dX7_orderOf_0 (fun _ _ => rfl) ?_
  refine qv_getI dX7_orderOf_1 rfl rfl rfl ?_
  refine qv_ic dX7_orderOf_4 ?_
  obtain ⟨h1, h2⟩ := h
  refine qv_icmp (t := 17) dX7_orderOf_5 (by decide) (d_ne (hvv _ _) (by decide)) (fun c => ?_) (fun c => ?_)
  · have h := h1 c
    refine qv_g (pc' := 18) (ls' := [some (.ref m), some (.int (iI x1)), some (.int (iI x2)), l3]) (st' := [.ref m]) dX7_orderOf_17 (fun _ _ => rfl) ?_
    refine qv_g (pc' := 19) (ls' := [some (.ref m), some (.int (iI x1)), some (.int (iI x2)), l3]) (st' := [.int (iI x1), .ref m]) dX7_orderOf_18 (fun _ _ => rfl) ?_
    refine qv_g (pc' := 20) (ls' := [some (.ref m), some (.int (iI x1)), some (.int (iI x2)), l3]) (st' := [.int (iI x2), .int (iI x1), .ref m]) dX7_orderOf_19 (fun _ _ => rfl) ?_
    refine qv_ic dX7_orderOf_20 ?_
    exact qv_call dX7_orderOf_21 (fun _ _ => ex_calV rfl (by decide)) rfl (Nat.le_of_ble_eq_true rfl) (Nat.le_of_ble_eq_true rfl) (Nat.le_of_ble_eq_true rfl) (fun _ hm => rcv0 rfl rfl (by decide) hm) rfl rfl rfl h
  · have h := h2 (Decidable.of_not_not c)
    refine qv_g (pc' := 9) (ls' := [some (.ref m), some (.int (iI x1)), some (.int (iI x2)), l3]) (st' := [.ref m]) dX7_orderOf_8 (fun _ _ => rfl) ?_
    refine qv_g (pc' := 10) (ls' := [some (.ref m), some (.int (iI x1)), some (.int (iI x2)), l3]) (st' := [.int (iI x1), .ref m]) dX7_orderOf_9 (fun _ _ => rfl) ?_
    refine qv_g (pc' := 11) (ls' := [some (.ref m), some (.int (iI x1)), some (.int (iI x2)), l3]) (st' := [.int (iI x2), .int (iI x1), .ref m]) dX7_orderOf_10 (fun _ _ => rfl) ?_
    exact qv_call dX7_orderOf_11 (fun _ _ => ex_calV rfl (by decide)) rfl (Nat.le_of_ble_eq_true rfl) (Nat.le_of_ble_eq_true rfl) (Nat.le_of_ble_eq_true rfl) (fun _ hm => rcv0 rfl rfl (by decide) hm) rfl rfl rfl h
theorem v124_14 {v : VS} {Q : Rs → VS → Prop} {x1 : Int} {x2 : Int} {l3 : Option Value} {u0 : Int}
    (h : RW g C S m A 124 24 [some (.ref m), some (.int (iI x1)), some (.int (iI x2)), l3] [.int (iI u0)] v Q) (hx1 : (-2147483648 : Int) ≤ x1 ∧ x1 ≤ 2147483647 := by omega) (hx2 : (-2147483648 : Int) ≤ x2 ∧ x2 ≤ 2147483647 := by omega) (hu0 : (-2147483648 : Int) ≤ u0 ∧ u0 ≤ 2147483647 := by omega) :
    RW g C S m A 124 14 [some (.ref m), some (.int (iI x1)), some (.int (iI x2)), l3] [.int (iI u0)] v Q := by
  refine qv_R (fun hvv => ?_)
  refine qv_goto (t := 24) dX7_orderOf_14 (by decide) ?_
  exact h
theorem v124_24 {v : VS} {Q : Rs → VS → Prop} {x1 : Int} {x2 : Int} {l3 : Option Value} {u0 : Int}
    (h : (u0 = 0 → (¬ v 11 0 = 1 → RW g C S m A 122 0 [some (.ref m), some (.int (iI x1)), some (.int (iI x2)), none, none] [] v (VK g C S m A 124 57 [some (.ref m), some (.int (iI x1)), some (.int (iI x2)), some (.int (iI u0))] [] Q)) ∧ (v 11 0 = 1 → RW g C S m A 123 0 [some (.ref m), some (.int (iI x1)), some (.int (iI x2)), some (.int (iI 2))] [] v (VK g C S m A 124 48 [some (.ref m), some (.int (iI x1)), some (.int (iI x2)), some (.int (iI u0))] [] Q))) ∧ (¬ u0 = 0 → RW g C S m A 124 57 [some (.ref m), some (.int (iI x1)), some (.int (iI x2)), some (.int (iI u0))] [.int (iI u0)] v Q)) (hx1 : (-2147483648 : Int) ≤ x1 ∧ x1 ≤ 2147483647 := by omega) (hx2 : (-2147483648 : Int) ≤ x2 ∧ x2 ≤ 2147483647 := by omega) (hu0 : (-2147483648 : Int) ≤ u0 ∧ u0 ≤ 2147483647 := by omega) :
    RW g C S m A 124 24 [some (.ref m), some (.int (iI x1)), some (.int (iI x2)), l3] [.int (iI u0)] v Q := by
  refine qv_R (fun hvv => ?_)
  refine qv_g (pc' := 25) (ls' := [some (.ref m), some (.int (iI x1)), some (.int (iI x2)), some (.int (iI u0))]) (st' := []) dX7_orderOf_24 (fun _ _ => rfl) ?_
  refine qv_g (pc' := 26) (ls' := [some (.ref m), some (.int (iI x1)), some (.int (iI x2)), some (.int (iI u0))]) (st' := [.int (iI u0)]) dX7_orderOf_25 (fun _ _ => rfl) ?_
  obtain ⟨h1, h2⟩ := h
  refine qv_if (t := 33) dX7_orderOf_26 (by decide) (d_eq hu0 (by decide)) (fun c => ?_) (fun c => ?_)
  · have h := h1 c
    refine qv_g (pc' := 34) (ls' := [some (.ref m), some (.int (iI x1)), some (.int (iI x2)), some (.int (iI u0))]) (st' := [.ref m]) dX7_orderOf_33 (fun _ _ => rfl) ?_
    refine qv_getI dX7_orderOf_34 rfl rfl rfl ?_
    refine qv_ic dX7_orderOf_37 ?_
    obtain ⟨h1, h2⟩ := h
    refine qv_icmp (t := 51) dX7_orderOf_38 (by decide) (d_ne (hvv _ _) (by decide)) (fun c => ?_) (fun c => ?_)
    · have h := h1 c
      refine qv_g (pc' := 52) (ls' := [some (.ref m), some (.int (iI x1)), some (.int (iI x2)), some (.int (iI u0))]) (st' := [.ref m]) dX7_orderOf_51 (fun _ _ => rfl) ?_
      refine qv_g (pc' := 53) (ls' := [some (.ref m), some (.int (iI x1)), some (.int (iI x2)), some (.int (iI u0))]) (st' := [.int (iI x1), .ref m]) dX7_orderOf_52 (fun _ _ => rfl) ?_
      refine qv_g (pc' := 54) (ls' := [some (.ref m), some (.int (iI x1)), some (.int (iI x2)), some (.int (iI u0))]) (st' := [.int (iI x2), .int (iI x1), .ref m]) dX7_orderOf_53 (fun _ _ => rfl) ?_
      exact qv_call dX7_orderOf_54 (fun _ _ => ex_calV rfl (by decide)) rfl (Nat.le_of_ble_eq_true rfl) (Nat.le_of_ble_eq_true rfl) (Nat.le_of_ble_eq_true rfl) (fun _ hm => rcv0 rfl rfl (by decide) hm) rfl rfl rfl h
    · have h := h2 (Decidable.of_not_not c)
      refine qv_g (pc' := 42) (ls' := [some (.ref m), some (.int (iI x1)), some (.int (iI x2)), some (.int (iI u0))]) (st' := [.ref m]) dX7_orderOf_41 (fun _ _ => rfl) ?_
      refine qv_g (pc' := 43) (ls' := [some (.ref m), some (.int (iI x1)), some (.int (iI x2)), some (.int (iI u0))]) (st' := [.int (iI x1), .ref m]) dX7_orderOf_42 (fun _ _ => rfl) ?_
      refine qv_g (pc' := 44) (ls' := [some (.ref m), some (.int (iI x1)), some (.int (iI x2)), some (.int (iI u0))]) (st' := [.int (iI x2), .int (iI x1), .ref m]) dX7_orderOf_43 (fun _ _ => rfl) ?_
      refine qv_ic dX7_orderOf_44 ?_
      exact qv_call dX7_orderOf_45 (fun _ _ => ex_calV rfl (by decide)) rfl (Nat.le_of_ble_eq_true rfl) (Nat.le_of_ble_eq_true rfl) (Nat.le_of_ble_eq_true rfl) (fun _ hm => rcv0 rfl rfl (by decide) hm) rfl rfl rfl h
  · have h := h2 c
    refine qv_g (pc' := 30) (ls' := [some (.ref m), some (.int (iI x1)), some (.int (iI x2)), some (.int (iI u0))]) (st' := [.int (iI u0)]) dX7_orderOf_29 (fun _ _ => rfl) ?_
    refine qv_goto (t := 57) dX7_orderOf_30 (by decide) ?_
    exact h
theorem v124_48 {v : VS} {Q : Rs → VS → Prop} {x1 : Int} {x2 : Int} {l3 : Option Value} {u0 : Int}
    (h : RW g C S m A 124 57 [some (.ref m), some (.int (iI x1)), some (.int (iI x2)), l3] [.int (iI u0)] v Q) (hx1 : (-2147483648 : Int) ≤ x1 ∧ x1 ≤ 2147483647 := by omega) (hx2 : (-2147483648 : Int) ≤ x2 ∧ x2 ≤ 2147483647 := by omega) (hu0 : (-2147483648 : Int) ≤ u0 ∧ u0 ≤ 2147483647 := by omega) :
    RW g C S m A 124 48 [some (.ref m), some (.int (iI x1)), some (.int (iI x2)), l3] [.int (iI u0)] v Q := by
  refine qv_R (fun hvv => ?_)
  refine qv_goto (t := 57) dX7_orderOf_48 (by decide) ?_
  exact h
theorem v124_57 {v : VS} {Q : Rs → VS → Prop} {x1 : Int} {x2 : Int} {l3 : Option Value} {u0 : Int}
    (h : (u0 = 0 → RW g C S m A 123 0 [some (.ref m), some (.int (iI x1)), some (.int (iI x2)), some (.int (iI 1))] [] v (VK g C S m A 124 73 [some (.ref m), some (.int (iI x1)), some (.int (iI x2)), some (.int (iI u0))] [] Q)) ∧ (¬ u0 = 0 → RW g C S m A 124 73 [some (.ref m), some (.int (iI x1)), some (.int (iI x2)), some (.int (iI u0))] [.int (iI u0)] v Q)) (hx1 : (-2147483648 : Int) ≤ x1 ∧ x1 ≤ 2147483647 := by omega) (hx2 : (-2147483648 : Int) ≤ x2 ∧ x2 ≤ 2147483647 := by omega) (hu0 : (-2147483648 : Int) ≤ u0 ∧ u0 ≤ 2147483647 := by omega) :
    RW g C S m A 124 57 [some (.ref m), some (.int (iI x1)), some (.int (iI x2)), l3] [.int (iI u0)] v Q := by
  refine qv_R (fun hvv => ?_)
  refine qv_g (pc' := 58) (ls' := [some (.ref m), some (.int (iI x1)), some (.int (iI x2)), some (.int (iI u0))]) (st' := []) dX7_orderOf_57 (fun _ _ => rfl) ?_
  refine qv_g (pc' := 59) (ls' := [some (.ref m), some (.int (iI x1)), some (.int (iI x2)), some (.int (iI u0))]) (st' := [.int (iI u0)]) dX7_orderOf_58 (fun _ _ => rfl) ?_
  obtain ⟨h1, h2⟩ := h
  refine qv_if (t := 66) dX7_orderOf_59 (by decide) (d_eq hu0 (by decide)) (fun c => ?_) (fun c => ?_)
  · have h := h1 c
    refine qv_g (pc' := 67) (ls' := [some (.ref m), some (.int (iI x1)), some (.int (iI x2)), some (.int (iI u0))]) (st' := [.ref m]) dX7_orderOf_66 (fun _ _ => rfl) ?_
    refine qv_g (pc' := 68) (ls' := [some (.ref m), some (.int (iI x1)), some (.int (iI x2)), some (.int (iI u0))]) (st' := [.int (iI x1), .ref m]) dX7_orderOf_67 (fun _ _ => rfl) ?_
    refine qv_g (pc' := 69) (ls' := [some (.ref m), some (.int (iI x1)), some (.int (iI x2)), some (.int (iI u0))]) (st' := [.int (iI x2), .int (iI x1), .ref m]) dX7_orderOf_68 (fun _ _ => rfl) ?_
    refine qv_ic dX7_orderOf_69 ?_
    exact qv_call dX7_orderOf_70 (fun _ _ => ex_calV rfl (by decide)) rfl (Nat.le_of_ble_eq_true rfl) (Nat.le_of_ble_eq_true rfl) (Nat.le_of_ble_eq_true rfl) (fun _ hm => rcv0 rfl rfl (by decide) hm) rfl rfl rfl h
  · have h := h2 c
    refine qv_g (pc' := 63) (ls' := [some (.ref m), some (.int (iI x1)), some (.int (iI x2)), some (.int (iI u0))]) (st' := [.int (iI u0)]) dX7_orderOf_62 (fun _ _ => rfl) ?_
    refine qv_goto (t := 73) dX7_orderOf_63 (by decide) ?_
    exact h
theorem v124_73 {v : VS} {Q : Rs → VS → Prop} {l0 : Option Value} {l1 : Option Value} {l2 : Option Value} {l3 : Option Value} {u0 : Int}
    (h : Q (Sum.inl (some (.int (iI u0)))) v) (hu0 : (-2147483648 : Int) ≤ u0 ∧ u0 ≤ 2147483647 := by omega) :
    RW g C S m A 124 73 [l0, l1, l2, l3] [.int (iI u0)] v Q := by
  refine qv_R (fun hvv => ?_)
  exact qv_ret dX7_orderOf_73 rfl h
theorem v125_0 {v : VS} {Q : Rs → VS → Prop} {l1 : Option Value} {l2 : Option Value} {l3 : Option Value} {l4 : Option Value}
    (h : (∀ w1, w1 = uv v 25 0 0 → RW g C S m A 125 7 [some (.ref m), some (.int (iI 0)), l2, l3, l4] [] w1 Q))  :
    RW g C S m A 125 0 [some (.ref m), l1, l2, l3, l4] [] v Q := by
  refine qv_R (fun hvv => ?_)
  refine qv_g (pc' := 1) (ls' := [some (.ref m), l1, l2, l3, l4]) (st' := [.ref m]) dX7_list_0 (fun _ _ => rfl) ?_
  refine qv_ic dX7_list_1 ?_
  refine qv_putI dX7_list_2 rfl rfl (Or.inl rfl) rfl (Or.inl rfl) (by decide) ?_
  generalize ew1 : uv v 25 0 0 = w1
  replace h := h _ ew1.symm
  refine qv_R (fun hvw1 => ?_)
  refine qv_ic dX7_list_5 ?_
  refine qv_g (pc' := 7) (ls' := [some (.ref m), some (.int (iI 0)), l2, l3, l4]) (st' := []) dX7_list_6 (fun _ _ => rfl) ?_
  exact h
theorem v125_7 {v : VS} {Q : Rs → VS → Prop} {x1 : Int} {l2 : Option Value} {l3 : Option Value} {l4 : Option Value}
    (h : (v 9 0 ≤ x1 → RW g C S m A 125 99 [some (.ref m), some (.int (iI 1)), l2, l3, l4] [] v Q) ∧ (x1 < v 9 0 → ((0 : Int) ≤ x1 ∧ (x1 : Int) < 24) ∧ RW g C S m A 104 0 [some (.ref m), some (.int (iI (v 10 x1))), none, none, none] [] v (VK g C S m A 125 25 [some (.ref m), some (.int (iI x1)), l2, l3, l4] [] Q))) (hx1 : (-2147483648 : Int) ≤ x1 ∧ x1 ≤ 2147483647 := by omega) :
    RW g C S m A 125 7 [some (.ref m), some (.int (iI x1)), l2, l3, l4] [] v Q := by
  refine qv_R (fun hvv => ?_)
  refine qv_g (pc' := 8) (ls' := [some (.ref m), some (.int (iI x1)), l2, l3, l4]) (st' := [.int (iI x1)]) dX7_list_7 (fun _ _ => rfl) ?_
  refine qv_g (pc' := 9) (ls' := [some (.ref m), some (.int (iI x1)), l2, l3, l4]) (st' := [.ref m, .int (iI x1)]) dX7_list_8 (fun _ _ => rfl) ?_
  refine qv_getI dX7_list_9 rfl rfl rfl ?_
  obtain ⟨h1, h2⟩ := h
  refine qv_icmp (t := 97) dX7_list_12 (by decide) (d_ge hx1 (hvv _ _)) (fun c => ?_) (fun c => ?_)
  · have h := h1 c
    refine qv_ic dX7_list_97 ?_
    refine qv_g (pc' := 99) (ls' := [some (.ref m), some (.int (iI 1)), l2, l3, l4]) (st' := []) dX7_list_98 (fun _ _ => rfl) ?_
    exact h
  · have h := h2 (Int.not_le.mp c)
    refine qv_g (pc' := 16) (ls' := [some (.ref m), some (.int (iI x1)), l2, l3, l4]) (st' := [.ref m]) dX7_list_15 (fun _ _ => rfl) ?_
    refine qv_g (pc' := 17) (ls' := [some (.ref m), some (.int (iI x1)), l2, l3, l4]) (st' := [.ref m, .ref m]) dX7_list_16 (fun _ _ => rfl) ?_
    refine qv_getA dX7_list_17 rfl rfl (by decide) ?_
    refine qv_g (pc' := 21) (ls' := [some (.ref m), some (.int (iI x1)), l2, l3, l4]) (st' := [.int (iI x1), .ref (A 10), .ref m]) dX7_list_20 (fun _ _ => rfl) ?_
    obtain ⟨hr1, h⟩ := h
    refine qv_iald dX7_list_21 (by decide) hr1 (by decide) ?_
    exact qv_call dX7_list_22 (fun _ _ => ex_calV rfl (by decide)) rfl (Nat.le_of_ble_eq_true rfl) (Nat.le_of_ble_eq_true rfl) (Nat.le_of_ble_eq_true rfl) (fun _ hm => rcv0 rfl rfl (by decide) hm) rfl rfl rfl h
theorem v125_25 {v : VS} {Q : Rs → VS → Prop} {x1 : Int} {l2 : Option Value} {l3 : Option Value} {l4 : Option Value} {u0 : Int}
    (h : RW g C S m A 125 31 [some (.ref m), some (.int (iI x1)), some (.int (iI u0)), some (.int (iI 0)), some (.int (iI 0))] [] v Q) (hx1 : (-2147483648 : Int) ≤ x1 ∧ x1 ≤ 2147483647 := by omega) (hu0 : (-2147483648 : Int) ≤ u0 ∧ u0 ≤ 2147483647 := by omega) :
    RW g C S m A 125 25 [some (.ref m), some (.int (iI x1)), l2, l3, l4] [.int (iI u0)] v Q := by
  refine qv_R (fun hvv => ?_)
  refine qv_g (pc' := 26) (ls' := [some (.ref m), some (.int (iI x1)), some (.int (iI u0)), l3, l4]) (st' := []) dX7_list_25 (fun _ _ => rfl) ?_
  refine qv_ic dX7_list_26 ?_
  refine qv_g (pc' := 28) (ls' := [some (.ref m), some (.int (iI x1)), some (.int (iI u0)), some (.int (iI 0)), l4]) (st' := []) dX7_list_27 (fun _ _ => rfl) ?_
  refine qv_ic dX7_list_28 ?_
  refine qv_g (pc' := 31) (ls' := [some (.ref m), some (.int (iI x1)), some (.int (iI u0)), some (.int (iI 0)), some (.int (iI 0))]) (st' := []) dX7_list_29 (fun _ _ => rfl) ?_
  exact h
theorem v125_31 {v : VS} {Q : Rs → VS → Prop} {x1 : Int} {x2 : Int} {x3 : Int} {x4 : Int}
    (h : (v 25 0 ≤ x4 → (¬ x3 = 0 → RW g C S m A 125 91 [some (.ref m), some (.int (iI x1)), some (.int (iI x2)), some (.int (iI x3)), some (.int (iI x4))] [] v Q) ∧ (x3 = 0 → ((0 : Int) ≤ v 25 0 ∧ (v 25 0 : Int) < 24) ∧ (∀ w2, w2 = uv v 26 (v 25 0) x2 → ((-2147483648 : Int) ≤ (w2 25 0) + 1 ∧ (w2 25 0) + 1 ≤ 2147483647) ∧ (∀ w4, w4 = uv w2 25 0 ((w2 25 0) + 1) → RW g C S m A 125 91 [some (.ref m), some (.int (iI x1)), some (.int (iI x2)), some (.int (iI x3)), some (.int (iI x4))] [] w4 Q)))) ∧ (x4 < v 25 0 → (¬ x3 = 0 → RW g C S m A 125 55 [some (.ref m), some (.int (iI x1)), some (.int (iI x2)), some (.int (iI x3)), some (.int (iI x4))] [] v Q) ∧ (x3 = 0 → ((0 : Int) ≤ x4 ∧ (x4 : Int) < 24) ∧ (¬ v 26 x4 = x2 → RW g C S m A 125 60 [some (.ref m), some (.int (iI x1)), some (.int (iI x2)), some (.int (iI x3)), some (.int (iI x4))] [.int (iI 0)] v Q) ∧ (v 26 x4 = x2 → RW g C S m A 125 55 [some (.ref m), some (.int (iI x1)), some (.int (iI x2)), some (.int (iI x3)), some (.int (iI x4))] [] v Q)))) (hx1 : (-2147483648 : Int) ≤ x1 ∧ x1 ≤ 2147483647 := by omega) (hx2 : (-2147483648 : Int) ≤ x2 ∧ x2 ≤ 2147483647 := by omega) (hx3 : (-2147483648 : Int) ≤ x3 ∧ x3 ≤ 2147483647 := by omega) (hx4 : (-2147483648 : Int) ≤ x4 ∧ x4 ≤ 2147483647 := by omega) :
    RW g C S m A 125 31 [some (.ref m), some (.int (iI x1)), some (.int (iI x2)), some (.int (iI x3)), some (.int (iI x4))] [] v Q := by
  refine qv_R (fun hvv => ?_)
  refine qv_g (pc' := 33) (ls' := [some (.ref m), some (.int (iI x1)), some (.int (iI x2)), some (.int (iI x3)), some (.int (iI x4))]) (st' := [.int (iI x4)]) dX7_list_31 (fun _ _ => rfl) ?_
  refine qv_g (pc' := 34) (ls' := [some (.ref m), some (.int (iI x1)), some (.int (iI x2)), some (.int (iI x3)), some (.int (iI x4))]) (st' := [.ref m, .int (iI x4)]) dX7_list_33 (fun _ _ => rfl) ?_
  refine qv_getI dX7_list_34 rfl rfl rfl ?_
  obtain ⟨h1, h2⟩ := h
  refine qv_icmp (t := 67) dX7_list_37 (by decide) (d_ge hx4 (hvv _ _)) (fun c => ?_) (fun c => ?_)
  · have h := h1 c
    refine qv_g (pc' := 68) (ls' := [some (.ref m), some (.int (iI x1)), some (.int (iI x2)), some (.int (iI x3)), some (.int (iI x4))]) (st' := [.int (iI x3)]) dX7_list_67 (fun _ _ => rfl) ?_
    obtain ⟨h1, h2⟩ := h
    refine qv_if (t := 91) dX7_list_68 (by decide) (d_ne hx3 (by decide)) (fun c => ?_) (fun c => ?_)
    · have h := h1 c
      exact h
    · have h := h2 (Decidable.of_not_not c)
      refine qv_g (pc' := 72) (ls' := [some (.ref m), some (.int (iI x1)), some (.int (iI x2)), some (.int (iI x3)), some (.int (iI x4))]) (st' := [.ref m]) dX7_list_71 (fun _ _ => rfl) ?_
      refine qv_getA dX7_list_72 rfl rfl (by decide) ?_
      refine qv_g (pc' := 76) (ls' := [some (.ref m), some (.int (iI x1)), some (.int (iI x2)), some (.int (iI x3)), some (.int (iI x4))]) (st' := [.ref m, .ref (A 26)]) dX7_list_75 (fun _ _ => rfl) ?_
      refine qv_getI dX7_list_76 rfl rfl rfl ?_
      refine qv_g (pc' := 80) (ls' := [some (.ref m), some (.int (iI x1)), some (.int (iI x2)), some (.int (iI x3)), some (.int (iI x4))]) (st' := [.int (iI x2), .int (iI (v 25 0)), .ref (A 26)]) dX7_list_79 (fun _ _ => rfl) ?_
      obtain ⟨hr1, h⟩ := h
      refine qv_iast dX7_list_80 (by decide) hr1 (by decide) hx2 ?_
      generalize ew2 : uv v 26 (v 25 0) x2 = w2
      replace h := h _ ew2.symm
      refine qv_R (fun hvw2 => ?_)
      refine qv_g (pc' := 82) (ls' := [some (.ref m), some (.int (iI x1)), some (.int (iI x2)), some (.int (iI x3)), some (.int (iI x4))]) (st' := [.ref m]) dX7_list_81 (fun _ _ => rfl) ?_
      refine qv_g (pc' := 83) (ls' := [some (.ref m), some (.int (iI x1)), some (.int (iI x2)), some (.int (iI x3)), some (.int (iI x4))]) (st' := [.ref m, .ref m]) dX7_list_82 (fun _ _ => rfl) ?_
      refine qv_getI dX7_list_83 rfl rfl rfl ?_
      refine qv_ic dX7_list_86 ?_
      obtain ⟨hr3, h⟩ := h
      refine qv_add dX7_list_87 ?_
      refine qv_putI dX7_list_88 rfl rfl (Or.inl rfl) rfl (Or.inl rfl) hr3 ?_
      generalize ew4 : uv w2 25 0 ((w2 25 0) + 1) = w4
      replace h := h _ ew4.symm
      refine qv_R (fun hvw4 => ?_)
      exact h
  · have h := h2 (Int.not_le.mp c)
    refine qv_g (pc' := 41) (ls' := [some (.ref m), some (.int (iI x1)), some (.int (iI x2)), some (.int (iI x3)), some (.int (iI x4))]) (st' := [.int (iI x3)]) dX7_list_40 (fun _ _ => rfl) ?_
    obtain ⟨h1, h2⟩ := h
    refine qv_if (t := 55) dX7_list_41 (by decide) (d_ne hx3 (by decide)) (fun c => ?_) (fun c => ?_)
    · have h := h1 c
      exact h
    · have h := h2 (Decidable.of_not_not c)
      refine qv_g (pc' := 45) (ls' := [some (.ref m), some (.int (iI x1)), some (.int (iI x2)), some (.int (iI x3)), some (.int (iI x4))]) (st' := [.ref m]) dX7_list_44 (fun _ _ => rfl) ?_
      refine qv_getA dX7_list_45 rfl rfl (by decide) ?_
      refine qv_g (pc' := 50) (ls' := [some (.ref m), some (.int (iI x1)), some (.int (iI x2)), some (.int (iI x3)), some (.int (iI x4))]) (st' := [.int (iI x4), .ref (A 26)]) dX7_list_48 (fun _ _ => rfl) ?_
      obtain ⟨hr5, h⟩ := h
      refine qv_iald dX7_list_50 (by decide) hr5 (by decide) ?_
      refine qv_g (pc' := 52) (ls' := [some (.ref m), some (.int (iI x1)), some (.int (iI x2)), some (.int (iI x3)), some (.int (iI x4))]) (st' := [.int (iI x2), .int (iI (v 26 x4))]) dX7_list_51 (fun _ _ => rfl) ?_
      obtain ⟨h1, h2⟩ := h
      refine qv_icmp (t := 59) dX7_list_52 (by decide) (d_ne (hvv _ _) hx2) (fun c => ?_) (fun c => ?_)
      · have h := h1 c
        refine qv_ic dX7_list_59 ?_
        exact h
      · have h := h2 (Decidable.of_not_not c)
        exact h
theorem v125_55 {v : VS} {Q : Rs → VS → Prop} {x1 : Int} {x2 : Int} {l3 : Option Value} {x4 : Int}
    (h : RW g C S m A 125 60 [some (.ref m), some (.int (iI x1)), some (.int (iI x2)), l3, some (.int (iI x4))] [.int (iI 1)] v Q) (hx1 : (-2147483648 : Int) ≤ x1 ∧ x1 ≤ 2147483647 := by omega) (hx2 : (-2147483648 : Int) ≤ x2 ∧ x2 ≤ 2147483647 := by omega) (hx4 : (-2147483648 : Int) ≤ x4 ∧ x4 ≤ 2147483647 := by omega) :
    RW g C S m A 125 55 [some (.ref m), some (.int (iI x1)), some (.int (iI x2)), l3, some (.int (iI x4))] [] v Q := by
  refine qv_R (fun hvv => ?_)
  refine qv_ic dX7_list_55 ?_
  refine qv_goto (t := 60) dX7_list_56 (by decide) ?_
  exact h
theorem v125_60 {v : VS} {Q : Rs → VS → Prop} {x1 : Int} {x2 : Int} {l3 : Option Value} {x4 : Int} {u0 : Int}
    (h : ((-2147483648 : Int) ≤ x4 + 1 ∧ x4 + 1 ≤ 2147483647) ∧ RW g C S m A 125 31 [some (.ref m), some (.int (iI x1)), some (.int (iI x2)), some (.int (iI u0)), some (.int (iI (x4 + 1)))] [] v Q) (hx1 : (-2147483648 : Int) ≤ x1 ∧ x1 ≤ 2147483647 := by omega) (hx2 : (-2147483648 : Int) ≤ x2 ∧ x2 ≤ 2147483647 := by omega) (hx4 : (-2147483648 : Int) ≤ x4 ∧ x4 ≤ 2147483647 := by omega) (hu0 : (-2147483648 : Int) ≤ u0 ∧ u0 ≤ 2147483647 := by omega) :
    RW g C S m A 125 60 [some (.ref m), some (.int (iI x1)), some (.int (iI x2)), l3, some (.int (iI x4))] [.int (iI u0)] v Q := by
  refine qv_R (fun hvv => ?_)
  refine qv_g (pc' := 61) (ls' := [some (.ref m), some (.int (iI x1)), some (.int (iI x2)), some (.int (iI u0)), some (.int (iI x4))]) (st' := []) dX7_list_60 (fun _ _ => rfl) ?_
  obtain ⟨hr1, h⟩ := h
  refine qv_inc (ls' := [some (.ref m), some (.int (iI x1)), some (.int (iI x2)), some (.int (iI u0)), some (.int (iI (x4 + 1)))]) dX7_list_61 rfl (Nat.le_of_ble_eq_true rfl) rfl ?_
  refine qv_goto (t := 31) dX7_list_64 (by decide) ?_
  exact h
theorem v125_91 {v : VS} {Q : Rs → VS → Prop} {x1 : Int} {l2 : Option Value} {l3 : Option Value} {l4 : Option Value}
    (h : ((-2147483648 : Int) ≤ x1 + 1 ∧ x1 + 1 ≤ 2147483647) ∧ RW g C S m A 125 7 [some (.ref m), some (.int (iI (x1 + 1))), l2, l3, l4] [] v Q) (hx1 : (-2147483648 : Int) ≤ x1 ∧ x1 ≤ 2147483647 := by omega) :
    RW g C S m A 125 91 [some (.ref m), some (.int (iI x1)), l2, l3, l4] [] v Q := by
  refine qv_R (fun hvv => ?_)
  obtain ⟨hr1, h⟩ := h
  refine qv_inc (ls' := [some (.ref m), some (.int (iI (x1 + 1))), l2, l3, l4]) dX7_list_91 rfl (Nat.le_of_ble_eq_true rfl) rfl ?_
  refine qv_goto (t := 7) dX7_list_94 (by decide) ?_
  exact h
theorem v125_99 {v : VS} {Q : Rs → VS → Prop} {x1 : Int} {l2 : Option Value} {l3 : Option Value} {l4 : Option Value}
    (h : (v 25 0 ≤ x1 → RW g C S m A 125 176 [some (.ref m), some (.int (iI x1)), l2, l3, l4] [] v Q) ∧ (x1 < v 25 0 → (v 11 0 ≤ 0 → RW g C S m A 125 176 [some (.ref m), some (.int (iI x1)), l2, l3, l4] [] v Q) ∧ (0 < v 11 0 → ((0 : Int) ≤ x1 ∧ (x1 : Int) < 24) ∧ RW g C S m A 125 123 [some (.ref m), some (.int (iI x1)), some (.int (iI (v 26 x1))), some (.int (iI x1)), l4] [] v Q))) (hx1 : (-2147483648 : Int) ≤ x1 ∧ x1 ≤ 2147483647 := by omega) :
    RW g C S m A 125 99 [some (.ref m), some (.int (iI x1)), l2, l3, l4] [] v Q := by
  refine qv_R (fun hvv => ?_)
  refine qv_g (pc' := 100) (ls' := [some (.ref m), some (.int (iI x1)), l2, l3, l4]) (st' := [.int (iI x1)]) dX7_list_99 (fun _ _ => rfl) ?_
  refine qv_g (pc' := 101) (ls' := [some (.ref m), some (.int (iI x1)), l2, l3, l4]) (st' := [.ref m, .int (iI x1)]) dX7_list_100 (fun _ _ => rfl) ?_
  refine qv_getI dX7_list_101 rfl rfl rfl ?_
  obtain ⟨h1, h2⟩ := h
  refine qv_icmp (t := 176) dX7_list_104 (by decide) (d_ge hx1 (hvv _ _)) (fun c => ?_) (fun c => ?_)
  · have h := h1 c
    exact h
  · have h := h2 (Int.not_le.mp c)
    refine qv_g (pc' := 108) (ls' := [some (.ref m), some (.int (iI x1)), l2, l3, l4]) (st' := [.ref m]) dX7_list_107 (fun _ _ => rfl) ?_
    refine qv_getI dX7_list_108 rfl rfl rfl ?_
    obtain ⟨h1, h2⟩ := h
    refine qv_if (t := 176) dX7_list_111 (by decide) (d_le (hvv _ _) (by decide)) (fun c => ?_) (fun c => ?_)
    · have h := h1 c
      exact h
    · have h := h2 (Int.not_le.mp c)
      refine qv_g (pc' := 115) (ls' := [some (.ref m), some (.int (iI x1)), l2, l3, l4]) (st' := [.ref m]) dX7_list_114 (fun _ _ => rfl) ?_
      refine qv_getA dX7_list_115 rfl rfl (by decide) ?_
      refine qv_g (pc' := 119) (ls' := [some (.ref m), some (.int (iI x1)), l2, l3, l4]) (st' := [.int (iI x1), .ref (A 26)]) dX7_list_118 (fun _ _ => rfl) ?_
      obtain ⟨hr1, h⟩ := h
      refine qv_iald dX7_list_119 (by decide) hr1 (by decide) ?_
      refine qv_g (pc' := 121) (ls' := [some (.ref m), some (.int (iI x1)), some (.int (iI (v 26 x1))), l3, l4]) (st' := []) dX7_list_120 (fun _ _ => rfl) ?_
      refine qv_g (pc' := 122) (ls' := [some (.ref m), some (.int (iI x1)), some (.int (iI (v 26 x1))), l3, l4]) (st' := [.int (iI x1)]) dX7_list_121 (fun _ _ => rfl) ?_
      refine qv_g (pc' := 123) (ls' := [some (.ref m), some (.int (iI x1)), some (.int (iI (v 26 x1))), some (.int (iI x1)), l4]) (st' := []) dX7_list_122 (fun _ _ => rfl) ?_
      exact h
theorem v125_123 {v : VS} {Q : Rs → VS → Prop} {x1 : Int} {x2 : Int} {x3 : Int} {l4 : Option Value}
    (h : (x3 ≤ 0 → RW g C S m A 125 163 [some (.ref m), some (.int (iI x1)), some (.int (iI x2)), some (.int (iI x3)), l4] [] v Q) ∧ (0 < x3 → ((-2147483648 : Int) ≤ x3 - 1 ∧ x3 - 1 ≤ 2147483647) ∧ ((0 : Int) ≤ x3 - 1 ∧ (x3 - 1 : Int) < 24) ∧ RW g C S m A 124 0 [some (.ref m), some (.int (iI (v 26 (x3 - 1)))), some (.int (iI x2)), none] [] v (VK g C S m A 125 140 [some (.ref m), some (.int (iI x1)), some (.int (iI x2)), some (.int (iI x3)), l4] [] Q))) (hx1 : (-2147483648 : Int) ≤ x1 ∧ x1 ≤ 2147483647 := by omega) (hx2 : (-2147483648 : Int) ≤ x2 ∧ x2 ≤ 2147483647 := by omega) (hx3 : (-2147483648 : Int) ≤ x3 ∧ x3 ≤ 2147483647 := by omega) :
    RW g C S m A 125 123 [some (.ref m), some (.int (iI x1)), some (.int (iI x2)), some (.int (iI x3)), l4] [] v Q := by
  refine qv_R (fun hvv => ?_)
  refine qv_g (pc' := 124) (ls' := [some (.ref m), some (.int (iI x1)), some (.int (iI x2)), some (.int (iI x3)), l4]) (st' := [.int (iI x3)]) dX7_list_123 (fun _ _ => rfl) ?_
  obtain ⟨h1, h2⟩ := h
  refine qv_if (t := 163) dX7_list_124 (by decide) (d_le hx3 (by decide)) (fun c => ?_) (fun c => ?_)
  · have h := h1 c
    exact h
  · have h := h2 (Int.not_le.mp c)
    refine qv_g (pc' := 128) (ls' := [some (.ref m), some (.int (iI x1)), some (.int (iI x2)), some (.int (iI x3)), l4]) (st' := [.ref m]) dX7_list_127 (fun _ _ => rfl) ?_
    refine qv_g (pc' := 129) (ls' := [some (.ref m), some (.int (iI x1)), some (.int (iI x2)), some (.int (iI x3)), l4]) (st' := [.ref m, .ref m]) dX7_list_128 (fun _ _ => rfl) ?_
    refine qv_getA dX7_list_129 rfl rfl (by decide) ?_
    refine qv_g (pc' := 133) (ls' := [some (.ref m), some (.int (iI x1)), some (.int (iI x2)), some (.int (iI x3)), l4]) (st' := [.int (iI x3), .ref (A 26), .ref m]) dX7_list_132 (fun _ _ => rfl) ?_
    refine qv_ic dX7_list_133 ?_
    obtain ⟨hr1, h⟩ := h
    refine qv_sub dX7_list_134 ?_
    obtain ⟨hr2, h⟩ := h
    refine qv_iald dX7_list_135 (by decide) hr2 (by decide) ?_
    refine qv_g (pc' := 137) (ls' := [some (.ref m), some (.int (iI x1)), some (.int (iI x2)), some (.int (iI x3)), l4]) (st' := [.int (iI x2), .int (iI (v 26 (x3 - 1))), .ref m]) dX7_list_136 (fun _ _ => rfl) ?_
    exact qv_call dX7_list_137 (fun _ _ => ex_calV rfl (by decide)) rfl (Nat.le_of_ble_eq_true rfl) (Nat.le_of_ble_eq_true rfl) (Nat.le_of_ble_eq_true rfl) (fun _ hm => rcv0 rfl rfl (by decide) hm) rfl rfl rfl h
theorem v125_140 {v : VS} {Q : Rs → VS → Prop} {x1 : Int} {x2 : Int} {x3 : Int} {l4 : Option Value} {u0 : Int}
    (h : (u0 ≤ 0 → RW g C S m A 125 163 [some (.ref m), some (.int (iI x1)), some (.int (iI x2)), some (.int (iI x3)), l4] [] v Q) ∧ (0 < u0 → ((-2147483648 : Int) ≤ x3 - 1 ∧ x3 - 1 ≤ 2147483647) ∧ ((0 : Int) ≤ x3 - 1 ∧ (x3 - 1 : Int) < 24) ∧ ((0 : Int) ≤ x3 ∧ (x3 : Int) < 24) ∧ (∀ w4, w4 = uv v 26 x3 (v 26 (x3 - 1)) → ((-2147483648 : Int) ≤ x3 + (-1) ∧ x3 + (-1) ≤ 2147483647) ∧ RW g C S m A 125 123 [some (.ref m), some (.int (iI x1)), some (.int (iI x2)), some (.int (iI (x3 + (-1)))), l4] [] w4 Q))) (hx1 : (-2147483648 : Int) ≤ x1 ∧ x1 ≤ 2147483647 := by omega) (hx2 : (-2147483648 : Int) ≤ x2 ∧ x2 ≤ 2147483647 := by omega) (hx3 : (-2147483648 : Int) ≤ x3 ∧ x3 ≤ 2147483647 := by omega) (hu0 : (-2147483648 : Int) ≤ u0 ∧ u0 ≤ 2147483647 := by omega) :
    RW g C S m A 125 140 [some (.ref m), some (.int (iI x1)), some (.int (iI x2)), some (.int (iI x3)), l4] [.int (iI u0)] v Q := by
  refine qv_R (fun hvv => ?_)
  obtain ⟨h1, h2⟩ := h
  refine qv_if (t := 163) dX7_list_140 (by decide) (d_le hu0 (by decide)) (fun c => ?_) (fun c => ?_)
  · have h := h1 c
    exact h
  · have h := h2 (Int.not_le.mp c)
    refine qv_g (pc' := 144) (ls' := [some (.ref m), some (.int (iI x1)), some (.int (iI x2)), some (.int (iI x3)), l4]) (st' := [.ref m]) dX7_list_143 (fun _ _ => rfl) ?_
    refine qv_getA dX7_list_144 rfl rfl (by decide) ?_
    refine qv_g (pc' := 148) (ls' := [some (.ref m), some (.int (iI x1)), some (.int (iI x2)), some (.int (iI x3)), l4]) (st' := [.int (iI x3), .ref (A 26)]) dX7_list_147 (fun _ _ => rfl) ?_
    refine qv_g (pc' := 149) (ls' := [some (.ref m), some (.int (iI x1)), some (.int (iI x2)), some (.int (iI x3)), l4]) (st' := [.ref m, .int (iI x3), .ref (A 26)]) dX7_list_148 (fun _ _ => rfl) ?_
    refine qv_getA dX7_list_149 rfl rfl (by decide) ?_
    refine qv_g (pc' := 153) (ls' := [some (.ref m), some (.int (iI x1)), some (.int (iI x2)), some (.int (iI x3)), l4]) (st' := [.int (iI x3), .ref (A 26), .int (iI x3), .ref (A 26)]) dX7_list_152 (fun _ _ => rfl) ?_
    refine qv_ic dX7_list_153 ?_
    obtain ⟨hr1, h⟩ := h
    refine qv_sub dX7_list_154 ?_
    obtain ⟨hr2, h⟩ := h
    refine qv_iald dX7_list_155 (by decide) hr2 (by decide) ?_
    obtain ⟨hr3, h⟩ := h
    refine qv_iast dX7_list_156 (by decide) hr3 (by decide) (hvv _ _) ?_
    generalize ew4 : uv v 26 x3 (v 26 (x3 - 1)) = w4
    replace h := h _ ew4.symm
    refine qv_R (fun hvw4 => ?_)
    obtain ⟨hr5, h⟩ := h
    refine qv_inc (ls' := [some (.ref m), some (.int (iI x1)), some (.int (iI x2)), some (.int (iI (x3 + (-1)))), l4]) dX7_list_157 rfl (Nat.le_of_ble_eq_true rfl) rfl ?_
    refine qv_goto (t := 123) dX7_list_160 (by decide) ?_
    exact h
theorem v125_163 {v : VS} {Q : Rs → VS → Prop} {x1 : Int} {x2 : Int} {x3 : Int} {l4 : Option Value}
    (h : ((0 : Int) ≤ x3 ∧ (x3 : Int) < 24) ∧ (∀ w2, w2 = uv v 26 x3 x2 → ((-2147483648 : Int) ≤ x1 + 1 ∧ x1 + 1 ≤ 2147483647) ∧ RW g C S m A 125 99 [some (.ref m), some (.int (iI (x1 + 1))), some (.int (iI x2)), some (.int (iI x3)), l4] [] w2 Q)) (hx1 : (-2147483648 : Int) ≤ x1 ∧ x1 ≤ 2147483647 := by omega) (hx2 : (-2147483648 : Int) ≤ x2 ∧ x2 ≤ 2147483647 := by omega) (hx3 : (-2147483648 : Int) ≤ x3 ∧ x3 ≤ 2147483647 := by omega) :
    RW g C S m A 125 163 [some (.ref m), some (.int (iI x1)), some (.int (iI x2)), some (.int (iI x3)), l4] [] v Q := by
  refine qv_R (fun hvv => ?_)
  refine qv_g (pc' := 164) (ls' := [some (.ref m), some (.int (iI x1)), some (.int (iI x2)), some (.int (iI x3)), l4]) (st' := [.ref m]) dX7_list_163 (fun _ _ => rfl) ?_
  refine qv_getA dX7_list_164 rfl rfl (by decide) ?_
  refine qv_g (pc' := 168) (ls' := [some (.ref m), some (.int (iI x1)), some (.int (iI x2)), some (.int (iI x3)), l4]) (st' := [.int (iI x3), .ref (A 26)]) dX7_list_167 (fun _ _ => rfl) ?_
  refine qv_g (pc' := 169) (ls' := [some (.ref m), some (.int (iI x1)), some (.int (iI x2)), some (.int (iI x3)), l4]) (st' := [.int (iI x2), .int (iI x3), .ref (A 26)]) dX7_list_168 (fun _ _ => rfl) ?_
  obtain ⟨hr1, h⟩ := h
  refine qv_iast dX7_list_169 (by decide) hr1 (by decide) hx2 ?_
  generalize ew2 : uv v 26 x3 x2 = w2
  replace h := h _ ew2.symm
  refine qv_R (fun hvw2 => ?_)
  obtain ⟨hr3, h⟩ := h
  refine qv_inc (ls' := [some (.ref m), some (.int (iI (x1 + 1))), some (.int (iI x2)), some (.int (iI x3)), l4]) dX7_list_170 rfl (Nat.le_of_ble_eq_true rfl) rfl ?_
  refine qv_goto (t := 99) dX7_list_173 (by decide) ?_
  exact h
theorem v125_176 {v : VS} {Q : Rs → VS → Prop} {l0 : Option Value} {l1 : Option Value} {l2 : Option Value} {l3 : Option Value} {l4 : Option Value}
    (h : Q (Sum.inl none) v)  :
    RW g C S m A 125 176 [l0, l1, l2, l3, l4] [] v Q := by
  refine qv_R (fun hvv => ?_)
  exact qv_vret dX7_list_176 rfl h
theorem v126_0 {v : VS} {Q : Rs → VS → Prop} {x1 : Int} {l2 : Option Value} {l3 : Option Value}
    (h : RW g C S m A 126 4 [some (.ref m), some (.int (iI x1)), some (.int (iI 0)), some (.int (iI 0))] [] v Q) (hx1 : (-2147483648 : Int) ≤ x1 ∧ x1 ≤ 2147483647 := by omega) :
    RW g C S m A 126 0 [some (.ref m), some (.int (iI x1)), l2, l3] [] v Q := by
  refine qv_R (fun hvv => ?_)
  refine qv_ic dX7_isAlike_0 ?_
  refine qv_g (pc' := 2) (ls' := [some (.ref m), some (.int (iI x1)), some (.int (iI 0)), l3]) (st' := []) dX7_isAlike_1 (fun _ _ => rfl) ?_
  refine qv_ic dX7_isAlike_2 ?_
  refine qv_g (pc' := 4) (ls' := [some (.ref m), some (.int (iI x1)), some (.int (iI 0)), some (.int (iI 0))]) (st' := []) dX7_isAlike_3 (fun _ _ => rfl) ?_
  exact h
theorem v126_4 {v : VS} {Q : Rs → VS → Prop} {x1 : Int} {x2 : Int} {x3 : Int}
    (h : (v 25 0 ≤ x3 → (x2 = 0 ∨ x2 = 1) ∧ Q (Sum.inl (some (.int (iI x2)))) v) ∧ (x3 < v 25 0 → ((0 : Int) ≤ x3 ∧ (x3 : Int) < 24) ∧ (v 26 x3 = x1 → RW g C S m A 126 105 [some (.ref m), some (.int (iI x1)), some (.int (iI x2)), some (.int (iI x3))] [] v Q) ∧ (¬ v 26 x3 = x1 → RW g C S m A 110 0 [some (.ref m), some (.int (iI 0)), some (.int (iI x1)), none, none, none, none, none, none, none, none, none, none, none] [] v (VK g C S m A 126 28 [some (.ref m), some (.int (iI x1)), some (.int (iI x2)), some (.int (iI x3))] [] Q)))) (hx1 : (-2147483648 : Int) ≤ x1 ∧ x1 ≤ 2147483647 := by omega) (hx2 : (-2147483648 : Int) ≤ x2 ∧ x2 ≤ 2147483647 := by omega) (hx3 : (-2147483648 : Int) ≤ x3 ∧ x3 ≤ 2147483647 := by omega) :
    RW g C S m A 126 4 [some (.ref m), some (.int (iI x1)), some (.int (iI x2)), some (.int (iI x3))] [] v Q := by
  refine qv_R (fun hvv => ?_)
  refine qv_g (pc' := 5) (ls' := [some (.ref m), some (.int (iI x1)), some (.int (iI x2)), some (.int (iI x3))]) (st' := [.int (iI x3)]) dX7_isAlike_4 (fun _ _ => rfl) ?_
  refine qv_g (pc' := 6) (ls' := [some (.ref m), some (.int (iI x1)), some (.int (iI x2)), some (.int (iI x3))]) (st' := [.ref m, .int (iI x3)]) dX7_isAlike_5 (fun _ _ => rfl) ?_
  refine qv_getI dX7_isAlike_6 rfl rfl rfl ?_
  obtain ⟨h1, h2⟩ := h
  refine qv_icmp (t := 111) dX7_isAlike_9 (by decide) (d_ge hx3 (hvv _ _)) (fun c => ?_) (fun c => ?_)
  · have h := h1 c
    refine qv_g (pc' := 112) (ls' := [some (.ref m), some (.int (iI x1)), some (.int (iI x2)), some (.int (iI x3))]) (st' := [.int (iI x2)]) dX7_isAlike_111 (fun _ _ => rfl) ?_
    obtain ⟨hn, h⟩ := h
    exact qv_ret dX7_isAlike_112 (by rcases hn with q | q <;> rw [q] <;> rfl) h
  · have h := h2 (Int.not_le.mp c)
    refine qv_g (pc' := 13) (ls' := [some (.ref m), some (.int (iI x1)), some (.int (iI x2)), some (.int (iI x3))]) (st' := [.ref m]) dX7_isAlike_12 (fun _ _ => rfl) ?_
    refine qv_getA dX7_isAlike_13 rfl rfl (by decide) ?_
    refine qv_g (pc' := 17) (ls' := [some (.ref m), some (.int (iI x1)), some (.int (iI x2)), some (.int (iI x3))]) (st' := [.int (iI x3), .ref (A 26)]) dX7_isAlike_16 (fun _ _ => rfl) ?_
    obtain ⟨hr1, h⟩ := h
    refine qv_iald dX7_isAlike_17 (by decide) hr1 (by decide) ?_
    refine qv_g (pc' := 19) (ls' := [some (.ref m), some (.int (iI x1)), some (.int (iI x2)), some (.int (iI x3))]) (st' := [.int (iI x1), .int (iI (v 26 x3))]) dX7_isAlike_18 (fun _ _ => rfl) ?_
    obtain ⟨h1, h2⟩ := h
    refine qv_icmp (t := 105) dX7_isAlike_19 (by decide) (d_eq (hvv _ _) hx1) (fun c => ?_) (fun c => ?_)
    · have h := h1 c
      exact h
    · have h := h2 c
      refine qv_g (pc' := 23) (ls' := [some (.ref m), some (.int (iI x1)), some (.int (iI x2)), some (.int (iI x3))]) (st' := [.ref m]) dX7_isAlike_22 (fun _ _ => rfl) ?_
      refine qv_ic dX7_isAlike_23 ?_
      refine qv_g (pc' := 25) (ls' := [some (.ref m), some (.int (iI x1)), some (.int (iI x2)), some (.int (iI x3))]) (st' := [.int (iI x1), .int (iI 0), .ref m]) dX7_isAlike_24 (fun _ _ => rfl) ?_
      exact qv_call dX7_isAlike_25 (fun _ _ => ex_calV rfl (by decide)) rfl (Nat.le_of_ble_eq_true rfl) (Nat.le_of_ble_eq_true rfl) (Nat.le_of_ble_eq_true rfl) (fun _ hm => rcv0 rfl rfl (by decide) hm) rfl rfl rfl h
theorem v126_28 {v : VS} {Q : Rs → VS → Prop} {x1 : Int} {x2 : Int} {x3 : Int}
    (h : ((0 : Int) ≤ x3 ∧ (x3 : Int) < 24) ∧ RW g C S m A 110 0 [some (.ref m), some (.int (iI 1)), some (.int (iI (v 26 x3))), none, none, none, none, none, none, none, none, none, none, none] [] v (VK g C S m A 126 39 [some (.ref m), some (.int (iI x1)), some (.int (iI x2)), some (.int (iI x3))] [] Q)) (hx1 : (-2147483648 : Int) ≤ x1 ∧ x1 ≤ 2147483647 := by omega) (hx2 : (-2147483648 : Int) ≤ x2 ∧ x2 ≤ 2147483647 := by omega) (hx3 : (-2147483648 : Int) ≤ x3 ∧ x3 ≤ 2147483647 := by omega) :
    RW g C S m A 126 28 [some (.ref m), some (.int (iI x1)), some (.int (iI x2)), some (.int (iI x3))] [] v Q := by
  refine qv_R (fun hvv => ?_)
  refine qv_g (pc' := 29) (ls' := [some (.ref m), some (.int (iI x1)), some (.int (iI x2)), some (.int (iI x3))]) (st' := [.ref m]) dX7_isAlike_28 (fun _ _ => rfl) ?_
  refine qv_ic dX7_isAlike_29 ?_
  refine qv_g (pc' := 31) (ls' := [some (.ref m), some (.int (iI x1)), some (.int (iI x2)), some (.int (iI x3))]) (st' := [.ref m, .int (iI 1), .ref m]) dX7_isAlike_30 (fun _ _ => rfl) ?_
  refine qv_getA dX7_isAlike_31 rfl rfl (by decide) ?_
  refine qv_g (pc' := 35) (ls' := [some (.ref m), some (.int (iI x1)), some (.int (iI x2)), some (.int (iI x3))]) (st' := [.int (iI x3), .ref (A 26), .int (iI 1), .ref m]) dX7_isAlike_34 (fun _ _ => rfl) ?_
  obtain ⟨hr1, h⟩ := h
  refine qv_iald dX7_isAlike_35 (by decide) hr1 (by decide) ?_
  exact qv_call dX7_isAlike_36 (fun _ _ => ex_calV rfl (by decide)) rfl (Nat.le_of_ble_eq_true rfl) (Nat.le_of_ble_eq_true rfl) (Nat.le_of_ble_eq_true rfl) (fun _ hm => rcv0 rfl rfl (by decide) hm) rfl rfl rfl h
theorem v126_39 {v : VS} {Q : Rs → VS → Prop} {x1 : Int} {x2 : Int} {x3 : Int}
    (h : ((0 : Int) ≤ 0 ∧ (0 : Int) < 2) ∧ (v 19 0 ≤ 0 → RW g C S m A 126 105 [some (.ref m), some (.int (iI x1)), some (.int (iI x2)), some (.int (iI x3))] [] v Q) ∧ (0 < v 19 0 → ((0 : Int) ≤ 1 ∧ (1 : Int) < 2) ∧ (v 19 1 ≤ 0 → RW g C S m A 126 105 [some (.ref m), some (.int (iI x1)), some (.int (iI x2)), some (.int (iI x3))] [] v Q) ∧ (0 < v 19 1 → RW g C S m A 121 0 [some (.ref m), some (.int (iI 0)), some (.int (iI 2))] [] v (VK g C S m A 126 63 [some (.ref m), some (.int (iI x1)), some (.int (iI x2)), some (.int (iI x3))] [] Q)))) (hx1 : (-2147483648 : Int) ≤ x1 ∧ x1 ≤ 2147483647 := by omega) (hx2 : (-2147483648 : Int) ≤ x2 ∧ x2 ≤ 2147483647 := by omega) (hx3 : (-2147483648 : Int) ≤ x3 ∧ x3 ≤ 2147483647 := by omega) :
    RW g C S m A 126 39 [some (.ref m), some (.int (iI x1)), some (.int (iI x2)), some (.int (iI x3))] [] v Q := by
  refine qv_R (fun hvv => ?_)
  refine qv_g (pc' := 40) (ls' := [some (.ref m), some (.int (iI x1)), some (.int (iI x2)), some (.int (iI x3))]) (st' := [.ref m]) dX7_isAlike_39 (fun _ _ => rfl) ?_
  refine qv_getA dX7_isAlike_40 rfl rfl (by decide) ?_
  refine qv_ic dX7_isAlike_43 ?_
  obtain ⟨hr1, h⟩ := h
  refine qv_iald dX7_isAlike_44 (by decide) hr1 (by decide) ?_
  obtain ⟨h1, h2⟩ := h
  refine qv_if (t := 105) dX7_isAlike_45 (by decide) (d_le (hvv _ _) (by decide)) (fun c => ?_) (fun c => ?_)
  · have h := h1 c
    exact h
  · have h := h2 (Int.not_le.mp c)
    refine qv_g (pc' := 49) (ls' := [some (.ref m), some (.int (iI x1)), some (.int (iI x2)), some (.int (iI x3))]) (st' := [.ref m]) dX7_isAlike_48 (fun _ _ => rfl) ?_
    refine qv_getA dX7_isAlike_49 rfl rfl (by decide) ?_
    refine qv_ic dX7_isAlike_52 ?_
    obtain ⟨hr2, h⟩ := h
    refine qv_iald dX7_isAlike_53 (by decide) hr2 (by decide) ?_
    obtain ⟨h1, h2⟩ := h
    refine qv_if (t := 105) dX7_isAlike_54 (by decide) (d_le (hvv _ _) (by decide)) (fun c => ?_) (fun c => ?_)
    · have h := h1 c
      exact h
    · have h := h2 (Int.not_le.mp c)
      refine qv_g (pc' := 58) (ls' := [some (.ref m), some (.int (iI x1)), some (.int (iI x2)), some (.int (iI x3))]) (st' := [.ref m]) dX7_isAlike_57 (fun _ _ => rfl) ?_
      refine qv_ic dX7_isAlike_58 ?_
      refine qv_ic dX7_isAlike_59 ?_
      exact qv_call dX7_isAlike_60 (fun _ _ => ex_calV rfl (by decide)) rfl (Nat.le_of_ble_eq_true rfl) (Nat.le_of_ble_eq_true rfl) (Nat.le_of_ble_eq_true rfl) (fun _ hm => rcv0 rfl rfl (by decide) hm) rfl rfl rfl h
theorem v126_63 {v : VS} {Q : Rs → VS → Prop} {x1 : Int} {x2 : Int} {x3 : Int} {u0 : Int}
    (h : (¬ u0 = 0 → RW g C S m A 126 105 [some (.ref m), some (.int (iI x1)), some (.int (iI x2)), some (.int (iI x3))] [] v Q) ∧ (u0 = 0 → (∀ w1, w1 = uv v 21 0 0 → RW g C S m A 118 0 [some (.ref m), some (.int (iI 0)), some (.int (iI 0)), none, none] [] w1 (VK g C S m A 126 77 [some (.ref m), some (.int (iI x1)), some (.int (iI x2)), some (.int (iI x3))] [] Q)))) (hx1 : (-2147483648 : Int) ≤ x1 ∧ x1 ≤ 2147483647 := by omega) (hx2 : (-2147483648 : Int) ≤ x2 ∧ x2 ≤ 2147483647 := by omega) (hx3 : (-2147483648 : Int) ≤ x3 ∧ x3 ≤ 2147483647 := by omega) (hu0 : (-2147483648 : Int) ≤ u0 ∧ u0 ≤ 2147483647 := by omega) :
    RW g C S m A 126 63 [some (.ref m), some (.int (iI x1)), some (.int (iI x2)), some (.int (iI x3))] [.int (iI u0)] v Q := by
  refine qv_R (fun hvv => ?_)
  obtain ⟨h1, h2⟩ := h
  refine qv_if (t := 105) dX7_isAlike_63 (by decide) (d_ne hu0 (by decide)) (fun c => ?_) (fun c => ?_)
  · have h := h1 c
    exact h
  · have h := h2 (Decidable.of_not_not c)
    refine qv_g (pc' := 67) (ls' := [some (.ref m), some (.int (iI x1)), some (.int (iI x2)), some (.int (iI x3))]) (st' := [.ref m]) dX7_isAlike_66 (fun _ _ => rfl) ?_
    refine qv_ic dX7_isAlike_67 ?_
    refine qv_putI dX7_isAlike_68 rfl rfl (Or.inl rfl) rfl (Or.inl rfl) (by decide) ?_
    generalize ew1 : uv v 21 0 0 = w1
    replace h := h _ ew1.symm
    refine qv_R (fun hvw1 => ?_)
    refine qv_g (pc' := 72) (ls' := [some (.ref m), some (.int (iI x1)), some (.int (iI x2)), some (.int (iI x3))]) (st' := [.ref m]) dX7_isAlike_71 (fun _ _ => rfl) ?_
    refine qv_ic dX7_isAlike_72 ?_
    refine qv_ic dX7_isAlike_73 ?_
    exact qv_call dX7_isAlike_74 (fun _ _ => ex_calV rfl (by decide)) rfl (Nat.le_of_ble_eq_true rfl) (Nat.le_of_ble_eq_true rfl) (Nat.le_of_ble_eq_true rfl) (fun _ hm => rcv0 rfl rfl (by decide) hm) rfl rfl rfl h
theorem v126_77 {v : VS} {Q : Rs → VS → Prop} {x1 : Int} {x2 : Int} {x3 : Int}
    (h : RW g C S m A 119 0 [some (.ref m), none] [] v (VK g C S m A 126 81 [some (.ref m), some (.int (iI x1)), some (.int (iI x2)), some (.int (iI x3))] [] Q)) (hx1 : (-2147483648 : Int) ≤ x1 ∧ x1 ≤ 2147483647 := by omega) (hx2 : (-2147483648 : Int) ≤ x2 ∧ x2 ≤ 2147483647 := by omega) (hx3 : (-2147483648 : Int) ≤ x3 ∧ x3 ≤ 2147483647 := by omega) :
    RW g C S m A 126 77 [some (.ref m), some (.int (iI x1)), some (.int (iI x2)), some (.int (iI x3))] [] v Q := by
  refine qv_R (fun hvv => ?_)
  refine qv_g (pc' := 78) (ls' := [some (.ref m), some (.int (iI x1)), some (.int (iI x2)), some (.int (iI x3))]) (st' := [.ref m]) dX7_isAlike_77 (fun _ _ => rfl) ?_
  exact qv_call dX7_isAlike_78 (fun _ _ => ex_calV rfl (by decide)) rfl (Nat.le_of_ble_eq_true rfl) (Nat.le_of_ble_eq_true rfl) (Nat.le_of_ble_eq_true rfl) (fun _ hm => rcv0 rfl rfl (by decide) hm) rfl rfl rfl h
theorem v126_81 {v : VS} {Q : Rs → VS → Prop} {x1 : Int} {x2 : Int} {x3 : Int}
    (h : RW g C S m A 118 0 [some (.ref m), some (.int (iI 1)), some (.int (iI 0)), none, none] [] v (VK g C S m A 126 87 [some (.ref m), some (.int (iI x1)), some (.int (iI x2)), some (.int (iI x3))] [] Q)) (hx1 : (-2147483648 : Int) ≤ x1 ∧ x1 ≤ 2147483647 := by omega) (hx2 : (-2147483648 : Int) ≤ x2 ∧ x2 ≤ 2147483647 := by omega) (hx3 : (-2147483648 : Int) ≤ x3 ∧ x3 ≤ 2147483647 := by omega) :
    RW g C S m A 126 81 [some (.ref m), some (.int (iI x1)), some (.int (iI x2)), some (.int (iI x3))] [] v Q := by
  refine qv_R (fun hvv => ?_)
  refine qv_g (pc' := 82) (ls' := [some (.ref m), some (.int (iI x1)), some (.int (iI x2)), some (.int (iI x3))]) (st' := [.ref m]) dX7_isAlike_81 (fun _ _ => rfl) ?_
  refine qv_ic dX7_isAlike_82 ?_
  refine qv_ic dX7_isAlike_83 ?_
  exact qv_call dX7_isAlike_84 (fun _ _ => ex_calV rfl (by decide)) rfl (Nat.le_of_ble_eq_true rfl) (Nat.le_of_ble_eq_true rfl) (Nat.le_of_ble_eq_true rfl) (fun _ hm => rcv0 rfl rfl (by decide) hm) rfl rfl rfl h
theorem v126_87 {v : VS} {Q : Rs → VS → Prop} {x1 : Int} {x2 : Int} {x3 : Int}
    (h : (¬ x2 = 0 → RW g C S m A 126 99 [some (.ref m), some (.int (iI x1)), some (.int (iI x2)), some (.int (iI x3))] [] v Q) ∧ (x2 = 0 → RW g C S m A 120 0 [some (.ref m), some (.int (iI 0)), none, none, none] [] v (VK g C S m A 126 96 [some (.ref m), some (.int (iI x1)), some (.int (iI x2)), some (.int (iI x3))] [] Q))) (hx1 : (-2147483648 : Int) ≤ x1 ∧ x1 ≤ 2147483647 := by omega) (hx2 : (-2147483648 : Int) ≤ x2 ∧ x2 ≤ 2147483647 := by omega) (hx3 : (-2147483648 : Int) ≤ x3 ∧ x3 ≤ 2147483647 := by omega) :
    RW g C S m A 126 87 [some (.ref m), some (.int (iI x1)), some (.int (iI x2)), some (.int (iI x3))] [] v Q := by
  refine qv_R (fun hvv => ?_)
  refine qv_g (pc' := 88) (ls' := [some (.ref m), some (.int (iI x1)), some (.int (iI x2)), some (.int (iI x3))]) (st' := [.int (iI x2)]) dX7_isAlike_87 (fun _ _ => rfl) ?_
  obtain ⟨h1, h2⟩ := h
  refine qv_if (t := 99) dX7_isAlike_88 (by decide) (d_ne hx2 (by decide)) (fun c => ?_) (fun c => ?_)
  · have h := h1 c
    exact h
  · have h := h2 (Decidable.of_not_not c)
    refine qv_g (pc' := 92) (ls' := [some (.ref m), some (.int (iI x1)), some (.int (iI x2)), some (.int (iI x3))]) (st' := [.ref m]) dX7_isAlike_91 (fun _ _ => rfl) ?_
    refine qv_ic dX7_isAlike_92 ?_
    exact qv_call dX7_isAlike_93 (fun _ _ => ex_calV rfl (by decide)) rfl (Nat.le_of_ble_eq_true rfl) (Nat.le_of_ble_eq_true rfl) (Nat.le_of_ble_eq_true rfl) (fun _ hm => rcv0 rfl rfl (by decide) hm) rfl rfl rfl h
theorem v126_96 {v : VS} {Q : Rs → VS → Prop} {x1 : Int} {l2 : Option Value} {x3 : Int} {u0 : Int}
    (h : (u0 = 0 → RW g C S m A 126 104 [some (.ref m), some (.int (iI x1)), l2, some (.int (iI x3))] [.int (iI 0)] v Q) ∧ (¬ u0 = 0 → RW g C S m A 126 99 [some (.ref m), some (.int (iI x1)), l2, some (.int (iI x3))] [] v Q)) (hx1 : (-2147483648 : Int) ≤ x1 ∧ x1 ≤ 2147483647 := by omega) (hx3 : (-2147483648 : Int) ≤ x3 ∧ x3 ≤ 2147483647 := by omega) (hu0 : (-2147483648 : Int) ≤ u0 ∧ u0 ≤ 2147483647 := by omega) :
    RW g C S m A 126 96 [some (.ref m), some (.int (iI x1)), l2, some (.int (iI x3))] [.int (iI u0)] v Q := by
  refine qv_R (fun hvv => ?_)
  obtain ⟨h1, h2⟩ := h
  refine qv_if (t := 103) dX7_isAlike_96 (by decide) (d_eq hu0 (by decide)) (fun c => ?_) (fun c => ?_)
  · have h := h1 c
    refine qv_ic dX7_isAlike_103 ?_
    exact h
  · have h := h2 c
    exact h
theorem v126_99 {v : VS} {Q : Rs → VS → Prop} {x1 : Int} {l2 : Option Value} {x3 : Int}
    (h : RW g C S m A 126 104 [some (.ref m), some (.int (iI x1)), l2, some (.int (iI x3))] [.int (iI 1)] v Q) (hx1 : (-2147483648 : Int) ≤ x1 ∧ x1 ≤ 2147483647 := by omega) (hx3 : (-2147483648 : Int) ≤ x3 ∧ x3 ≤ 2147483647 := by omega) :
    RW g C S m A 126 99 [some (.ref m), some (.int (iI x1)), l2, some (.int (iI x3))] [] v Q := by
  refine qv_R (fun hvv => ?_)
  refine qv_ic dX7_isAlike_99 ?_
  refine qv_goto (t := 104) dX7_isAlike_100 (by decide) ?_
  exact h
theorem v126_104 {v : VS} {Q : Rs → VS → Prop} {x1 : Int} {l2 : Option Value} {x3 : Int} {u0 : Int}
    (h : RW g C S m A 126 105 [some (.ref m), some (.int (iI x1)), some (.int (iI u0)), some (.int (iI x3))] [] v Q) (hx1 : (-2147483648 : Int) ≤ x1 ∧ x1 ≤ 2147483647 := by omega) (hx3 : (-2147483648 : Int) ≤ x3 ∧ x3 ≤ 2147483647 := by omega) (hu0 : (-2147483648 : Int) ≤ u0 ∧ u0 ≤ 2147483647 := by omega) :
    RW g C S m A 126 104 [some (.ref m), some (.int (iI x1)), l2, some (.int (iI x3))] [.int (iI u0)] v Q := by
  refine qv_R (fun hvv => ?_)
  refine qv_g (pc' := 105) (ls' := [some (.ref m), some (.int (iI x1)), some (.int (iI u0)), some (.int (iI x3))]) (st' := []) dX7_isAlike_104 (fun _ _ => rfl) ?_
  exact h
theorem v126_105 {v : VS} {Q : Rs → VS → Prop} {x1 : Int} {x2 : Int} {x3 : Int}
    (h : ((-2147483648 : Int) ≤ x3 + 1 ∧ x3 + 1 ≤ 2147483647) ∧ RW g C S m A 126 4 [some (.ref m), some (.int (iI x1)), some (.int (iI x2)), some (.int (iI (x3 + 1)))] [] v Q) (hx1 : (-2147483648 : Int) ≤ x1 ∧ x1 ≤ 2147483647 := by omega) (hx2 : (-2147483648 : Int) ≤ x2 ∧ x2 ≤ 2147483647 := by omega) (hx3 : (-2147483648 : Int) ≤ x3 ∧ x3 ≤ 2147483647 := by omega) :
    RW g C S m A 126 105 [some (.ref m), some (.int (iI x1)), some (.int (iI x2)), some (.int (iI x3))] [] v Q := by
  refine qv_R (fun hvv => ?_)
  obtain ⟨hr1, h⟩ := h
  refine qv_inc (ls' := [some (.ref m), some (.int (iI x1)), some (.int (iI x2)), some (.int (iI (x3 + 1)))]) dX7_isAlike_105 rfl (Nat.le_of_ble_eq_true rfl) rfl ?_
  refine qv_goto (t := 4) dX7_isAlike_108 (by decide) ?_
  exact h
theorem v127_0 {v : VS} {Q : Rs → VS → Prop} {x1 : Int} {l2 : Option Value} {l3 : Option Value} {l4 : Option Value} {l5 : Option Value}
    (h : RW g C S m A 110 0 [some (.ref m), some (.int (iI 0)), some (.int (iI x1)), none, none, none, none, none, none, none, none, none, none, none] [] v (VK g C S m A 127 6 [some (.ref m), some (.int (iI x1)), l2, l3, l4, l5] [] Q)) (hx1 : (-2147483648 : Int) ≤ x1 ∧ x1 ≤ 2147483647 := by omega) :
    RW g C S m A 127 0 [some (.ref m), some (.int (iI x1)), l2, l3, l4, l5] [] v Q := by
  refine qv_R (fun hvv => ?_)
  refine qv_g (pc' := 1) (ls' := [some (.ref m), some (.int (iI x1)), l2, l3, l4, l5]) (st' := [.ref m]) dX7_makeShort_0 (fun _ _ => rfl) ?_
  refine qv_ic dX7_makeShort_1 ?_
  refine qv_g (pc' := 3) (ls' := [some (.ref m), some (.int (iI x1)), l2, l3, l4, l5]) (st' := [.int (iI x1), .int (iI 0), .ref m]) dX7_makeShort_2 (fun _ _ => rfl) ?_
  exact qv_call dX7_makeShort_3 (fun _ _ => ex_calV rfl (by decide)) rfl (Nat.le_of_ble_eq_true rfl) (Nat.le_of_ble_eq_true rfl) (Nat.le_of_ble_eq_true rfl) (fun _ hm => rcv0 rfl rfl (by decide) hm) rfl rfl rfl h
theorem v127_6 {v : VS} {Q : Rs → VS → Prop} {x1 : Int} {l2 : Option Value} {l3 : Option Value} {l4 : Option Value} {l5 : Option Value}
    (h : ((0 : Int) ≤ 0 ∧ (0 : Int) < 2) ∧ (¬ v 19 0 = 0 → (¬ v 19 0 = 1 → RW g C S m A 127 39 [some (.ref m), some (.int (iI x1)), some (.int (iI (v 19 0))), l3, l4, l5] [] v Q) ∧ (v 19 0 = 1 → RW g C S m A 115 0 [some (.ref m), some (.int (iI 0)), some (.int (iI 0)), some (.int (iI 2)), some (.int (iI 3)), none, none, none, none] [] v (VK g C S m A 127 39 [some (.ref m), some (.int (iI x1)), some (.int (iI (v 19 0))), l3, l4, l5] [] Q))) ∧ (v 19 0 = 0 → RW g C S m A 114 0 [some (.ref m), some (.int (iI x1)), some (.int (iI 3)), none] [] v (VK g C S m A 127 23 [some (.ref m), some (.int (iI x1)), some (.int (iI (v 19 0))), l3, l4, l5] [] Q))) (hx1 : (-2147483648 : Int) ≤ x1 ∧ x1 ≤ 2147483647 := by omega) :
    RW g C S m A 127 6 [some (.ref m), some (.int (iI x1)), l2, l3, l4, l5] [] v Q := by
  refine qv_R (fun hvv => ?_)
  refine qv_g (pc' := 7) (ls' := [some (.ref m), some (.int (iI x1)), l2, l3, l4, l5]) (st' := [.ref m]) dX7_makeShort_6 (fun _ _ => rfl) ?_
  refine qv_getA dX7_makeShort_7 rfl rfl (by decide) ?_
  refine qv_ic dX7_makeShort_10 ?_
  obtain ⟨hr1, h⟩ := h
  refine qv_iald dX7_makeShort_11 (by decide) hr1 (by decide) ?_
  refine qv_g (pc' := 13) (ls' := [some (.ref m), some (.int (iI x1)), some (.int (iI (v 19 0))), l3, l4, l5]) (st' := []) dX7_makeShort_12 (fun _ _ => rfl) ?_
  refine qv_g (pc' := 14) (ls' := [some (.ref m), some (.int (iI x1)), some (.int (iI (v 19 0))), l3, l4, l5]) (st' := [.int (iI (v 19 0))]) dX7_makeShort_13 (fun _ _ => rfl) ?_
  obtain ⟨h1, h2⟩ := h
  refine qv_if (t := 26) dX7_makeShort_14 (by decide) (d_ne (hvv _ _) (by decide)) (fun c => ?_) (fun c => ?_)
  · have h := h1 c
    refine qv_g (pc' := 27) (ls' := [some (.ref m), some (.int (iI x1)), some (.int (iI (v 19 0))), l3, l4, l5]) (st' := [.int (iI (v 19 0))]) dX7_makeShort_26 (fun _ _ => rfl) ?_
    refine qv_ic dX7_makeShort_27 ?_
    obtain ⟨h1, h2⟩ := h
    refine qv_icmp (t := 39) dX7_makeShort_28 (by decide) (d_ne (hvv _ _) (by decide)) (fun c => ?_) (fun c => ?_)
    · have h := h1 c
      exact h
    · have h := h2 (Decidable.of_not_not c)
      refine qv_g (pc' := 32) (ls' := [some (.ref m), some (.int (iI x1)), some (.int (iI (v 19 0))), l3, l4, l5]) (st' := [.ref m]) dX7_makeShort_31 (fun _ _ => rfl) ?_
      refine qv_ic dX7_makeShort_32 ?_
      refine qv_ic dX7_makeShort_33 ?_
      refine qv_ic dX7_makeShort_34 ?_
      refine qv_ic dX7_makeShort_35 ?_
      exact qv_call dX7_makeShort_36 (fun _ _ => ex_calV rfl (by decide)) rfl (Nat.le_of_ble_eq_true rfl) (Nat.le_of_ble_eq_true rfl) (Nat.le_of_ble_eq_true rfl) (fun _ hm => rcv0 rfl rfl (by decide) hm) rfl rfl rfl h
  · have h := h2 (Decidable.of_not_not c)
    refine qv_g (pc' := 18) (ls' := [some (.ref m), some (.int (iI x1)), some (.int (iI (v 19 0))), l3, l4, l5]) (st' := [.ref m]) dX7_makeShort_17 (fun _ _ => rfl) ?_
    refine qv_g (pc' := 19) (ls' := [some (.ref m), some (.int (iI x1)), some (.int (iI (v 19 0))), l3, l4, l5]) (st' := [.int (iI x1), .ref m]) dX7_makeShort_18 (fun _ _ => rfl) ?_
    refine qv_ic dX7_makeShort_19 ?_
    exact qv_call dX7_makeShort_20 (fun _ _ => ex_calV rfl (by decide)) rfl (Nat.le_of_ble_eq_true rfl) (Nat.le_of_ble_eq_true rfl) (Nat.le_of_ble_eq_true rfl) (fun _ hm => rcv0 rfl rfl (by decide) hm) rfl rfl rfl h
theorem v127_23 {v : VS} {Q : Rs → VS → Prop} {x1 : Int} {x2 : Int} {l3 : Option Value} {l4 : Option Value} {l5 : Option Value}
    (h : RW g C S m A 127 39 [some (.ref m), some (.int (iI x1)), some (.int (iI x2)), l3, l4, l5] [] v Q) (hx1 : (-2147483648 : Int) ≤ x1 ∧ x1 ≤ 2147483647 := by omega) (hx2 : (-2147483648 : Int) ≤ x2 ∧ x2 ≤ 2147483647 := by omega) :
    RW g C S m A 127 23 [some (.ref m), some (.int (iI x1)), some (.int (iI x2)), l3, l4, l5] [] v Q := by
  refine qv_R (fun hvv => ?_)
  refine qv_goto (t := 39) dX7_makeShort_23 (by decide) ?_
  exact h
theorem v127_39 {v : VS} {Q : Rs → VS → Prop} {x1 : Int} {x2 : Int} {l3 : Option Value} {l4 : Option Value} {l5 : Option Value}
    (h : RW g C S m A 127 41 [some (.ref m), some (.int (iI x1)), some (.int (iI x2)), some (.int (iI 0)), l4, l5] [] v Q) (hx1 : (-2147483648 : Int) ≤ x1 ∧ x1 ≤ 2147483647 := by omega) (hx2 : (-2147483648 : Int) ≤ x2 ∧ x2 ≤ 2147483647 := by omega) :
    RW g C S m A 127 39 [some (.ref m), some (.int (iI x1)), some (.int (iI x2)), l3, l4, l5] [] v Q := by
  refine qv_R (fun hvv => ?_)
  refine qv_ic dX7_makeShort_39 ?_
  refine qv_g (pc' := 41) (ls' := [some (.ref m), some (.int (iI x1)), some (.int (iI x2)), some (.int (iI 0)), l4, l5]) (st' := []) dX7_makeShort_40 (fun _ _ => rfl) ?_
  exact h
theorem v127_41 {v : VS} {Q : Rs → VS → Prop} {x1 : Int} {x2 : Int} {x3 : Int} {l4 : Option Value} {l5 : Option Value}
    (h : (x2 ≤ x3 → RW g C S m A 127 70 [some (.ref m), some (.int (iI x1)), some (.int (iI x2)), some (.int (iI x3)), l4, l5] [] v Q) ∧ (x3 < x2 → (4 ≤ x3 → RW g C S m A 127 70 [some (.ref m), some (.int (iI x1)), some (.int (iI x2)), some (.int (iI x3)), l4, l5] [] v Q) ∧ (x3 < 4 → (x2 ≤ 1 → RW g C S m A 127 70 [some (.ref m), some (.int (iI x1)), some (.int (iI x2)), some (.int (iI x3)), l4, l5] [] v Q) ∧ (1 < x2 → RW g C S m A 115 0 [some (.ref m), some (.int (iI 0)), some (.int (iI x3)), some (.int (iI 2)), some (.int (iI 1)), none, none, none, none] [] v (VK g C S m A 127 64 [some (.ref m), some (.int (iI x1)), some (.int (iI x2)), some (.int (iI x3)), l4, l5] [] Q))))) (hx1 : (-2147483648 : Int) ≤ x1 ∧ x1 ≤ 2147483647 := by omega) (hx2 : (-2147483648 : Int) ≤ x2 ∧ x2 ≤ 2147483647 := by omega) (hx3 : (-2147483648 : Int) ≤ x3 ∧ x3 ≤ 2147483647 := by omega) :
    RW g C S m A 127 41 [some (.ref m), some (.int (iI x1)), some (.int (iI x2)), some (.int (iI x3)), l4, l5] [] v Q := by
  refine qv_R (fun hvv => ?_)
  refine qv_g (pc' := 42) (ls' := [some (.ref m), some (.int (iI x1)), some (.int (iI x2)), some (.int (iI x3)), l4, l5]) (st' := [.int (iI x3)]) dX7_makeShort_41 (fun _ _ => rfl) ?_
  refine qv_g (pc' := 43) (ls' := [some (.ref m), some (.int (iI x1)), some (.int (iI x2)), some (.int (iI x3)), l4, l5]) (st' := [.int (iI x2), .int (iI x3)]) dX7_makeShort_42 (fun _ _ => rfl) ?_
  obtain ⟨h1, h2⟩ := h
  refine qv_icmp (t := 70) dX7_makeShort_43 (by decide) (d_ge hx3 hx2) (fun c => ?_) (fun c => ?_)
  · have h := h1 c
    exact h
  · have h := h2 (Int.not_le.mp c)
    refine qv_g (pc' := 47) (ls' := [some (.ref m), some (.int (iI x1)), some (.int (iI x2)), some (.int (iI x3)), l4, l5]) (st' := [.int (iI x3)]) dX7_makeShort_46 (fun _ _ => rfl) ?_
    refine qv_ic dX7_makeShort_47 ?_
    obtain ⟨h1, h2⟩ := h
    refine qv_icmp (t := 70) dX7_makeShort_48 (by decide) (d_ge hx3 (by decide)) (fun c => ?_) (fun c => ?_)
    · have h := h1 c
      exact h
    · have h := h2 (Int.not_le.mp c)
      refine qv_g (pc' := 52) (ls' := [some (.ref m), some (.int (iI x1)), some (.int (iI x2)), some (.int (iI x3)), l4, l5]) (st' := [.int (iI x2)]) dX7_makeShort_51 (fun _ _ => rfl) ?_
      refine qv_ic dX7_makeShort_52 ?_
      obtain ⟨h1, h2⟩ := h
      refine qv_icmp (t := 70) dX7_makeShort_53 (by decide) (d_le hx2 (by decide)) (fun c => ?_) (fun c => ?_)
      · have h := h1 c
        exact h
      · have h := h2 (Int.not_le.mp c)
        refine qv_g (pc' := 57) (ls' := [some (.ref m), some (.int (iI x1)), some (.int (iI x2)), some (.int (iI x3)), l4, l5]) (st' := [.ref m]) dX7_makeShort_56 (fun _ _ => rfl) ?_
        refine qv_ic dX7_makeShort_57 ?_
        refine qv_g (pc' := 59) (ls' := [some (.ref m), some (.int (iI x1)), some (.int (iI x2)), some (.int (iI x3)), l4, l5]) (st' := [.int (iI x3), .int (iI 0), .ref m]) dX7_makeShort_58 (fun _ _ => rfl) ?_
        refine qv_ic dX7_makeShort_59 ?_
        refine qv_ic dX7_makeShort_60 ?_
        exact qv_call dX7_makeShort_61 (fun _ _ => ex_calV rfl (by decide)) rfl (Nat.le_of_ble_eq_true rfl) (Nat.le_of_ble_eq_true rfl) (Nat.le_of_ble_eq_true rfl) (fun _ hm => rcv0 rfl rfl (by decide) hm) rfl rfl rfl h
theorem v127_64 {v : VS} {Q : Rs → VS → Prop} {x1 : Int} {x2 : Int} {x3 : Int} {l4 : Option Value} {l5 : Option Value}
    (h : ((-2147483648 : Int) ≤ x3 + 1 ∧ x3 + 1 ≤ 2147483647) ∧ RW g C S m A 127 41 [some (.ref m), some (.int (iI x1)), some (.int (iI x2)), some (.int (iI (x3 + 1))), l4, l5] [] v Q) (hx1 : (-2147483648 : Int) ≤ x1 ∧ x1 ≤ 2147483647 := by omega) (hx2 : (-2147483648 : Int) ≤ x2 ∧ x2 ≤ 2147483647 := by omega) (hx3 : (-2147483648 : Int) ≤ x3 ∧ x3 ≤ 2147483647 := by omega) :
    RW g C S m A 127 64 [some (.ref m), some (.int (iI x1)), some (.int (iI x2)), some (.int (iI x3)), l4, l5] [] v Q := by
  refine qv_R (fun hvv => ?_)
  obtain ⟨hr1, h⟩ := h
  refine qv_inc (ls' := [some (.ref m), some (.int (iI x1)), some (.int (iI x2)), some (.int (iI (x3 + 1))), l4, l5]) dX7_makeShort_64 rfl (Nat.le_of_ble_eq_true rfl) rfl ?_
  refine qv_goto (t := 41) dX7_makeShort_67 (by decide) ?_
  exact h
theorem v127_70 {v : VS} {Q : Rs → VS → Prop} {x1 : Int} {x2 : Int} {l3 : Option Value} {l4 : Option Value} {l5 : Option Value}
    (h : (x2 ≤ 4 → RW g C S m A 127 81 [some (.ref m), some (.int (iI x1)), some (.int (iI x2)), l3, l4, l5] [] v Q) ∧ (4 < x2 → RW g C S m A 111 0 [some (.ref m), some (.int (iI 43))] [] v (VK g C S m A 127 81 [some (.ref m), some (.int (iI x1)), some (.int (iI x2)), l3, l4, l5] [] Q))) (hx1 : (-2147483648 : Int) ≤ x1 ∧ x1 ≤ 2147483647 := by omega) (hx2 : (-2147483648 : Int) ≤ x2 ∧ x2 ≤ 2147483647 := by omega) :
    RW g C S m A 127 70 [some (.ref m), some (.int (iI x1)), some (.int (iI x2)), l3, l4, l5] [] v Q := by
  refine qv_R (fun hvv => ?_)
  refine qv_g (pc' := 71) (ls' := [some (.ref m), some (.int (iI x1)), some (.int (iI x2)), l3, l4, l5]) (st' := [.int (iI x2)]) dX7_makeShort_70 (fun _ _ => rfl) ?_
  refine qv_ic dX7_makeShort_71 ?_
  obtain ⟨h1, h2⟩ := h
  refine qv_icmp (t := 81) dX7_makeShort_72 (by decide) (d_le hx2 (by decide)) (fun c => ?_) (fun c => ?_)
  · have h := h1 c
    exact h
  · have h := h2 (Int.not_le.mp c)
    refine qv_g (pc' := 76) (ls' := [some (.ref m), some (.int (iI x1)), some (.int (iI x2)), l3, l4, l5]) (st' := [.ref m]) dX7_makeShort_75 (fun _ _ => rfl) ?_
    refine qv_bi dX7_makeShort_76 (by decide) ?_
    exact qv_call dX7_makeShort_78 (fun _ _ => ex_calV rfl (by decide)) rfl (Nat.le_of_ble_eq_true rfl) (Nat.le_of_ble_eq_true rfl) (Nat.le_of_ble_eq_true rfl) (fun _ hm => rcv0 rfl rfl (by decide) hm) rfl rfl rfl h
theorem v127_81 {v : VS} {Q : Rs → VS → Prop} {x1 : Int} {l2 : Option Value} {l3 : Option Value} {l4 : Option Value} {l5 : Option Value}
    (h : RW g C S m A 103 0 [some (.ref m), some (.int (iI x1)), some (.int (iI 2)), none] [] v (VK g C S m A 127 87 [some (.ref m), some (.int (iI x1)), l2, l3, l4, l5] [] Q)) (hx1 : (-2147483648 : Int) ≤ x1 ∧ x1 ≤ 2147483647 := by omega) :
    RW g C S m A 127 81 [some (.ref m), some (.int (iI x1)), l2, l3, l4, l5] [] v Q := by
  refine qv_R (fun hvv => ?_)
  refine qv_g (pc' := 82) (ls' := [some (.ref m), some (.int (iI x1)), l2, l3, l4, l5]) (st' := [.ref m]) dX7_makeShort_81 (fun _ _ => rfl) ?_
  refine qv_g (pc' := 83) (ls' := [some (.ref m), some (.int (iI x1)), l2, l3, l4, l5]) (st' := [.int (iI x1), .ref m]) dX7_makeShort_82 (fun _ _ => rfl) ?_
  refine qv_ic dX7_makeShort_83 ?_
  exact qv_call dX7_makeShort_84 (fun _ _ => ex_calV rfl (by decide)) rfl (Nat.le_of_ble_eq_true rfl) (Nat.le_of_ble_eq_true rfl) (Nat.le_of_ble_eq_true rfl) (fun _ hm => rcv0 rfl rfl (by decide) hm) rfl rfl rfl h
theorem v127_87 {v : VS} {Q : Rs → VS → Prop} {l1 : Option Value} {l2 : Option Value} {l3 : Option Value} {l4 : Option Value} {l5 : Option Value} {u0 : Int}
    (h : (u0 = (-1) → RW g C S m A 127 103 [some (.ref m), l1, (clr l2), some (.int (iI u0)), l4, l5] [] v Q) ∧ (¬ u0 = (-1) → ((0 : Int) ≤ u0 ∧ (u0 : Int) < 192) ∧ (2 ≤ v 5 u0 → ((0 : Int) ≤ u0 ∧ (u0 : Int) < 192) ∧ ((-2147483648 : Int) ≤ (v 5 u0) - 2 ∧ (v 5 u0) - 2 ≤ 2147483647) ∧ RW g C S m A 127 115 [some (.ref m), l1, (clr l2), some (.int (iI u0)), l4, l5] [.int (iI ((v 5 u0) - 2))] v Q) ∧ (v 5 u0 < 2 → RW g C S m A 127 103 [some (.ref m), l1, (clr l2), some (.int (iI u0)), l4, l5] [] v Q))) (hu0 : (-2147483648 : Int) ≤ u0 ∧ u0 ≤ 2147483647 := by omega) :
    RW g C S m A 127 87 [some (.ref m), l1, l2, l3, l4, l5] [.int (iI u0)] v Q := by
  refine qv_R (fun hvv => ?_)
  refine qv_g (pc' := 88) (ls' := [some (.ref m), l1, (clr l2), some (.int (iI u0)), l4, l5]) (st' := []) dX7_makeShort_87 (fun _ _ => rfl) ?_
  refine qv_g (pc' := 89) (ls' := [some (.ref m), l1, (clr l2), some (.int (iI u0)), l4, l5]) (st' := [.int (iI u0)]) dX7_makeShort_88 (fun _ _ => rfl) ?_
  refine qv_ic dX7_makeShort_89 ?_
  obtain ⟨h1, h2⟩ := h
  refine qv_icmp (t := 103) dX7_makeShort_90 (by decide) (d_eq hu0 (by decide)) (fun c => ?_) (fun c => ?_)
  · have h := h1 c
    exact h
  · have h := h2 c
    refine qv_g (pc' := 94) (ls' := [some (.ref m), l1, (clr l2), some (.int (iI u0)), l4, l5]) (st' := [.ref m]) dX7_makeShort_93 (fun _ _ => rfl) ?_
    refine qv_getA dX7_makeShort_94 rfl rfl (by decide) ?_
    refine qv_g (pc' := 98) (ls' := [some (.ref m), l1, (clr l2), some (.int (iI u0)), l4, l5]) (st' := [.int (iI u0), .ref (A 5)]) dX7_makeShort_97 (fun _ _ => rfl) ?_
    obtain ⟨hr1, h⟩ := h
    refine qv_iald dX7_makeShort_98 (by decide) hr1 (by decide) ?_
    refine qv_ic dX7_makeShort_99 ?_
    obtain ⟨h1, h2⟩ := h
    refine qv_icmp (t := 107) dX7_makeShort_100 (by decide) (d_ge (hvv _ _) (by decide)) (fun c => ?_) (fun c => ?_)
    · have h := h1 c
      refine qv_g (pc' := 108) (ls' := [some (.ref m), l1, (clr l2), some (.int (iI u0)), l4, l5]) (st' := [.ref m]) dX7_makeShort_107 (fun _ _ => rfl) ?_
      refine qv_getA dX7_makeShort_108 rfl rfl (by decide) ?_
      refine qv_g (pc' := 112) (ls' := [some (.ref m), l1, (clr l2), some (.int (iI u0)), l4, l5]) (st' := [.int (iI u0), .ref (A 5)]) dX7_makeShort_111 (fun _ _ => rfl) ?_
      obtain ⟨hr2, h⟩ := h
      refine qv_iald dX7_makeShort_112 (by decide) hr2 (by decide) ?_
      refine qv_ic dX7_makeShort_113 ?_
      obtain ⟨hr3, h⟩ := h
      refine qv_sub dX7_makeShort_114 ?_
      exact h
    · have h := h2 (Int.not_le.mp c)
      exact h
theorem v127_103 {v : VS} {Q : Rs → VS → Prop} {l1 : Option Value} {l2 : Option Value} {x3 : Int} {l4 : Option Value} {l5 : Option Value}
    (h : RW g C S m A 127 115 [some (.ref m), l1, l2, some (.int (iI x3)), l4, l5] [.int (iI 0)] v Q) (hx3 : (-2147483648 : Int) ≤ x3 ∧ x3 ≤ 2147483647 := by omega) :
    RW g C S m A 127 103 [some (.ref m), l1, l2, some (.int (iI x3)), l4, l5] [] v Q := by
  refine qv_R (fun hvv => ?_)
  refine qv_ic dX7_makeShort_103 ?_
  refine qv_goto (t := 115) dX7_makeShort_104 (by decide) ?_
  exact h
theorem v127_115 {v : VS} {Q : Rs → VS → Prop} {l1 : Option Value} {l2 : Option Value} {x3 : Int} {l4 : Option Value} {l5 : Option Value} {u0 : Int}
    (h : RW g C S m A 127 121 [some (.ref m), l1, l2, some (.int (iI x3)), some (.int (iI u0)), some (.int (iI u0))] [] v Q) (hx3 : (-2147483648 : Int) ≤ x3 ∧ x3 ≤ 2147483647 := by omega) (hu0 : (-2147483648 : Int) ≤ u0 ∧ u0 ≤ 2147483647 := by omega) :
    RW g C S m A 127 115 [some (.ref m), l1, l2, some (.int (iI x3)), l4, l5] [.int (iI u0)] v Q := by
  refine qv_R (fun hvv => ?_)
  refine qv_g (pc' := 117) (ls' := [some (.ref m), l1, l2, some (.int (iI x3)), some (.int (iI u0)), l5]) (st' := []) dX7_makeShort_115 (fun _ _ => rfl) ?_
  refine qv_g (pc' := 119) (ls' := [some (.ref m), l1, l2, some (.int (iI x3)), some (.int (iI u0)), l5]) (st' := [.int (iI u0)]) dX7_makeShort_117 (fun _ _ => rfl) ?_
  refine qv_g (pc' := 121) (ls' := [some (.ref m), l1, l2, some (.int (iI x3)), some (.int (iI u0)), some (.int (iI u0))]) (st' := []) dX7_makeShort_119 (fun _ _ => rfl) ?_
  exact h
theorem v127_121 {v : VS} {Q : Rs → VS → Prop} {l1 : Option Value} {l2 : Option Value} {x3 : Int} {l4 : Option Value} {x5 : Int}
    (h : (x3 = (-1) → RW g C S m A 127 159 [some (.ref m), l1, l2, some (.int (iI x3)), l4, some (.int (iI x5))] [] v Q) ∧ (¬ x3 = (-1) → ((0 : Int) ≤ x3 ∧ (x3 : Int) < 192) ∧ (v 5 x3 ≤ x5 → RW g C S m A 127 159 [some (.ref m), l1, l2, some (.int (iI x3)), l4, some (.int (iI x5))] [] v Q) ∧ (x5 < v 5 x3 → ((-2147483648 : Int) ≤ 80 * x3 ∧ 80 * x3 ≤ 2147483647) ∧ ((-2147483648 : Int) ≤ (80 * x3) + x5 ∧ (80 * x3) + x5 ≤ 2147483647) ∧ ((0 : Int) ≤ (80 * x3) + x5 ∧ ((80 * x3) + x5 : Int) < 15360) ∧ RW g C S m A 111 0 [some (.ref m), some (.int (iI (v 6 ((80 * x3) + x5))))] [] v (VK g C S m A 127 153 [some (.ref m), l1, l2, some (.int (iI x3)), l4, some (.int (iI x5))] [] Q)))) (hx3 : (-2147483648 : Int) ≤ x3 ∧ x3 ≤ 2147483647 := by omega) (hx5 : (-2147483648 : Int) ≤ x5 ∧ x5 ≤ 2147483647 := by omega) :
    RW g C S m A 127 121 [some (.ref m), l1, l2, some (.int (iI x3)), l4, some (.int (iI x5))] [] v Q := by
  refine qv_R (fun hvv => ?_)
  refine qv_g (pc' := 122) (ls' := [some (.ref m), l1, l2, some (.int (iI x3)), l4, some (.int (iI x5))]) (st' := [.int (iI x3)]) dX7_makeShort_121 (fun _ _ => rfl) ?_
  refine qv_ic dX7_makeShort_122 ?_
  obtain ⟨h1, h2⟩ := h
  refine qv_icmp (t := 159) dX7_makeShort_123 (by decide) (d_eq hx3 (by decide)) (fun c => ?_) (fun c => ?_)
  · have h := h1 c
    exact h
  · have h := h2 c
    refine qv_g (pc' := 128) (ls' := [some (.ref m), l1, l2, some (.int (iI x3)), l4, some (.int (iI x5))]) (st' := [.int (iI x5)]) dX7_makeShort_126 (fun _ _ => rfl) ?_
    refine qv_g (pc' := 129) (ls' := [some (.ref m), l1, l2, some (.int (iI x3)), l4, some (.int (iI x5))]) (st' := [.ref m, .int (iI x5)]) dX7_makeShort_128 (fun _ _ => rfl) ?_
    refine qv_getA dX7_makeShort_129 rfl rfl (by decide) ?_
    refine qv_g (pc' := 133) (ls' := [some (.ref m), l1, l2, some (.int (iI x3)), l4, some (.int (iI x5))]) (st' := [.int (iI x3), .ref (A 5), .int (iI x5)]) dX7_makeShort_132 (fun _ _ => rfl) ?_
    obtain ⟨hr1, h⟩ := h
    refine qv_iald dX7_makeShort_133 (by decide) hr1 (by decide) ?_
    obtain ⟨h1, h2⟩ := h
    refine qv_icmp (t := 159) dX7_makeShort_134 (by decide) (d_ge hx5 (hvv _ _)) (fun c => ?_) (fun c => ?_)
    · have h := h1 c
      exact h
    · have h := h2 (Int.not_le.mp c)
      refine qv_g (pc' := 138) (ls' := [some (.ref m), l1, l2, some (.int (iI x3)), l4, some (.int (iI x5))]) (st' := [.ref m]) dX7_makeShort_137 (fun _ _ => rfl) ?_
      refine qv_g (pc' := 139) (ls' := [some (.ref m), l1, l2, some (.int (iI x3)), l4, some (.int (iI x5))]) (st' := [.ref m, .ref m]) dX7_makeShort_138 (fun _ _ => rfl) ?_
      refine qv_getA dX7_makeShort_139 rfl rfl (by decide) ?_
      refine qv_bi dX7_makeShort_142 (by decide) ?_
      refine qv_g (pc' := 145) (ls' := [some (.ref m), l1, l2, some (.int (iI x3)), l4, some (.int (iI x5))]) (st' := [.int (iI x3), .int (iI 80), .ref (A 6), .ref m]) dX7_makeShort_144 (fun _ _ => rfl) ?_
      obtain ⟨hr2, h⟩ := h
      refine qv_mul dX7_makeShort_145 ?_
      refine qv_g (pc' := 148) (ls' := [some (.ref m), l1, l2, some (.int (iI x3)), l4, some (.int (iI x5))]) (st' := [.int (iI x5), .int (iI (80 * x3)), .ref (A 6), .ref m]) dX7_makeShort_146 (fun _ _ => rfl) ?_
      obtain ⟨hr3, h⟩ := h
      refine qv_add dX7_makeShort_148 ?_
      obtain ⟨hr4, h⟩ := h
      refine qv_iald dX7_makeShort_149 (by decide) hr4 (by decide) ?_
      exact qv_call dX7_makeShort_150 (fun _ _ => ex_calV rfl (by decide)) rfl (Nat.le_of_ble_eq_true rfl) (Nat.le_of_ble_eq_true rfl) (Nat.le_of_ble_eq_true rfl) (fun _ hm => rcv0 rfl rfl (by decide) hm) rfl rfl rfl h
theorem v127_153 {v : VS} {Q : Rs → VS → Prop} {l1 : Option Value} {l2 : Option Value} {x3 : Int} {l4 : Option Value} {x5 : Int}
    (h : ((-2147483648 : Int) ≤ x5 + 1 ∧ x5 + 1 ≤ 2147483647) ∧ RW g C S m A 127 121 [some (.ref m), l1, l2, some (.int (iI x3)), (clr l4), some (.int (iI (x5 + 1)))] [] v Q) (hx3 : (-2147483648 : Int) ≤ x3 ∧ x3 ≤ 2147483647 := by omega) (hx5 : (-2147483648 : Int) ≤ x5 ∧ x5 ≤ 2147483647 := by omega) :
    RW g C S m A 127 153 [some (.ref m), l1, l2, some (.int (iI x3)), l4, some (.int (iI x5))] [] v Q := by
  refine qv_R (fun hvv => ?_)
  obtain ⟨hr1, h⟩ := h
  refine qv_inc (ls' := [some (.ref m), l1, l2, some (.int (iI x3)), (clr l4), some (.int (iI (x5 + 1)))]) dX7_makeShort_153 rfl (Nat.le_of_ble_eq_true rfl) rfl ?_
  refine qv_goto (t := 121) dX7_makeShort_156 (by decide) ?_
  exact h
theorem v127_159 {v : VS} {Q : Rs → VS → Prop} {l0 : Option Value} {l1 : Option Value} {l2 : Option Value} {l3 : Option Value} {l4 : Option Value} {l5 : Option Value}
    (h : Q (Sum.inl none) v)  :
    RW g C S m A 127 159 [l0, l1, l2, l3, l4, l5] [] v Q := by
  refine qv_R (fun hvv => ?_)
  exact qv_vret dX7_makeShort_159 rfl h
theorem v128_0 {v : VS} {Q : Rs → VS → Prop} {x1 : Int} {x2 : Int} {l3 : Option Value} {l4 : Option Value}
    (h : RW g C S m A 110 0 [some (.ref m), some (.int (iI 0)), some (.int (iI x1)), none, none, none, none, none, none, none, none, none, none, none] [] v (VK g C S m A 128 6 [some (.ref m), some (.int (iI x1)), some (.int (iI x2)), l3, l4] [] Q)) (hx1 : (-2147483648 : Int) ≤ x1 ∧ x1 ≤ 2147483647 := by omega) (hx2 : (-2147483648 : Int) ≤ x2 ∧ x2 ≤ 2147483647 := by omega) :
    RW g C S m A 128 0 [some (.ref m), some (.int (iI x1)), some (.int (iI x2)), l3, l4] [] v Q := by
  refine qv_R (fun hvv => ?_)
  refine qv_g (pc' := 1) (ls' := [some (.ref m), some (.int (iI x1)), some (.int (iI x2)), l3, l4]) (st' := [.ref m]) dX7_makeLong_0 (fun _ _ => rfl) ?_
  refine qv_ic dX7_makeLong_1 ?_
  refine qv_g (pc' := 3) (ls' := [some (.ref m), some (.int (iI x1)), some (.int (iI x2)), l3, l4]) (st' := [.int (iI x1), .int (iI 0), .ref m]) dX7_makeLong_2 (fun _ _ => rfl) ?_
  exact qv_call dX7_makeLong_3 (fun _ _ => ex_calV rfl (by decide)) rfl (Nat.le_of_ble_eq_true rfl) (Nat.le_of_ble_eq_true rfl) (Nat.le_of_ble_eq_true rfl) (fun _ hm => rcv0 rfl rfl (by decide) hm) rfl rfl rfl h
theorem v128_6 {v : VS} {Q : Rs → VS → Prop} {x1 : Int} {x2 : Int} {l3 : Option Value} {l4 : Option Value}
    (h : ((0 : Int) ≤ 0 ∧ (0 : Int) < 2) ∧ (¬ v 19 0 = 0 → (x2 = 0 → RW g C S m A 128 53 [some (.ref m), some (.int (iI x1)), some (.int (iI x2)), some (.int (iI (v 19 0))), l4] [] v Q) ∧ (¬ x2 = 0 → RW g C S m A 116 0 [some (.ref m), some (.int (iI 0)), some (.int (iI 0)), some (.int (iI 0)), none, none] [] v (VK g C S m A 128 38 [some (.ref m), some (.int (iI x1)), some (.int (iI x2)), some (.int (iI (v 19 0))), l4] [] Q))) ∧ (v 19 0 = 0 → RW g C S m A 114 0 [some (.ref m), some (.int (iI x1)), some (.int (iI 16)), none] [] v (VK g C S m A 128 24 [some (.ref m), some (.int (iI x1)), some (.int (iI x2)), some (.int (iI (v 19 0))), l4] [] Q))) (hx1 : (-2147483648 : Int) ≤ x1 ∧ x1 ≤ 2147483647 := by omega) (hx2 : (-2147483648 : Int) ≤ x2 ∧ x2 ≤ 2147483647 := by omega) :
    RW g C S m A 128 6 [some (.ref m), some (.int (iI x1)), some (.int (iI x2)), l3, l4] [] v Q := by
  refine qv_R (fun hvv => ?_)
  refine qv_g (pc' := 7) (ls' := [some (.ref m), some (.int (iI x1)), some (.int (iI x2)), l3, l4]) (st' := [.ref m]) dX7_makeLong_6 (fun _ _ => rfl) ?_
  refine qv_getA dX7_makeLong_7 rfl rfl (by decide) ?_
  refine qv_ic dX7_makeLong_10 ?_
  obtain ⟨hr1, h⟩ := h
  refine qv_iald dX7_makeLong_11 (by decide) hr1 (by decide) ?_
  refine qv_g (pc' := 13) (ls' := [some (.ref m), some (.int (iI x1)), some (.int (iI x2)), some (.int (iI (v 19 0))), l4]) (st' := []) dX7_makeLong_12 (fun _ _ => rfl) ?_
  refine qv_g (pc' := 14) (ls' := [some (.ref m), some (.int (iI x1)), some (.int (iI x2)), some (.int (iI (v 19 0))), l4]) (st' := [.int (iI (v 19 0))]) dX7_makeLong_13 (fun _ _ => rfl) ?_
  obtain ⟨h1, h2⟩ := h
  refine qv_if (t := 27) dX7_makeLong_14 (by decide) (d_ne (hvv _ _) (by decide)) (fun c => ?_) (fun c => ?_)
  · have h := h1 c
    refine qv_g (pc' := 28) (ls' := [some (.ref m), some (.int (iI x1)), some (.int (iI x2)), some (.int (iI (v 19 0))), l4]) (st' := [.int (iI x2)]) dX7_makeLong_27 (fun _ _ => rfl) ?_
    obtain ⟨h1, h2⟩ := h
    refine qv_if (t := 53) dX7_makeLong_28 (by decide) (d_eq hx2 (by decide)) (fun c => ?_) (fun c => ?_)
    · have h := h1 c
      exact h
    · have h := h2 c
      refine qv_g (pc' := 32) (ls' := [some (.ref m), some (.int (iI x1)), some (.int (iI x2)), some (.int (iI (v 19 0))), l4]) (st' := [.ref m]) dX7_makeLong_31 (fun _ _ => rfl) ?_
      refine qv_ic dX7_makeLong_32 ?_
      refine qv_ic dX7_makeLong_33 ?_
      refine qv_ic dX7_makeLong_34 ?_
      exact qv_call dX7_makeLong_35 (fun _ _ => ex_calV rfl (by decide)) rfl (Nat.le_of_ble_eq_true rfl) (Nat.le_of_ble_eq_true rfl) (Nat.le_of_ble_eq_true rfl) (fun _ hm => rcv0 rfl rfl (by decide) hm) rfl rfl rfl h
  · have h := h2 (Decidable.of_not_not c)
    refine qv_g (pc' := 18) (ls' := [some (.ref m), some (.int (iI x1)), some (.int (iI x2)), some (.int (iI (v 19 0))), l4]) (st' := [.ref m]) dX7_makeLong_17 (fun _ _ => rfl) ?_
    refine qv_g (pc' := 19) (ls' := [some (.ref m), some (.int (iI x1)), some (.int (iI x2)), some (.int (iI (v 19 0))), l4]) (st' := [.int (iI x1), .ref m]) dX7_makeLong_18 (fun _ _ => rfl) ?_
    refine qv_bi dX7_makeLong_19 (by decide) ?_
    exact qv_call dX7_makeLong_21 (fun _ _ => ex_calV rfl (by decide)) rfl (Nat.le_of_ble_eq_true rfl) (Nat.le_of_ble_eq_true rfl) (Nat.le_of_ble_eq_true rfl) (fun _ hm => rcv0 rfl rfl (by decide) hm) rfl rfl rfl h
theorem v128_24 {v : VS} {Q : Rs → VS → Prop} {x1 : Int} {l2 : Option Value} {x3 : Int} {l4 : Option Value}
    (h : RW g C S m A 128 59 [some (.ref m), some (.int (iI x1)), l2, some (.int (iI x3)), l4] [] v Q) (hx1 : (-2147483648 : Int) ≤ x1 ∧ x1 ≤ 2147483647 := by omega) (hx3 : (-2147483648 : Int) ≤ x3 ∧ x3 ≤ 2147483647 := by omega) :
    RW g C S m A 128 24 [some (.ref m), some (.int (iI x1)), l2, some (.int (iI x3)), l4] [] v Q := by
  refine qv_R (fun hvv => ?_)
  refine qv_goto (t := 59) dX7_makeLong_24 (by decide) ?_
  exact h
theorem v128_38 {v : VS} {Q : Rs → VS → Prop} {x1 : Int} {l2 : Option Value} {x3 : Int} {l4 : Option Value} {u0 : Int}
    (h : (u0 = 0 → RW g C S m A 128 53 [some (.ref m), some (.int (iI x1)), l2, some (.int (iI x3)), l4] [] v Q) ∧ (¬ u0 = 0 → RW g C S m A 118 0 [some (.ref m), some (.int (iI 0)), some (.int (iI 0)), none, none] [] v (VK g C S m A 128 47 [some (.ref m), some (.int (iI x1)), l2, some (.int (iI x3)), l4] [] Q))) (hx1 : (-2147483648 : Int) ≤ x1 ∧ x1 ≤ 2147483647 := by omega) (hx3 : (-2147483648 : Int) ≤ x3 ∧ x3 ≤ 2147483647 := by omega) (hu0 : (-2147483648 : Int) ≤ u0 ∧ u0 ≤ 2147483647 := by omega) :
    RW g C S m A 128 38 [some (.ref m), some (.int (iI x1)), l2, some (.int (iI x3)), l4] [.int (iI u0)] v Q := by
  refine qv_R (fun hvv => ?_)
  obtain ⟨h1, h2⟩ := h
  refine qv_if (t := 53) dX7_makeLong_38 (by decide) (d_eq hu0 (by decide)) (fun c => ?_) (fun c => ?_)
  · have h := h1 c
    exact h
  · have h := h2 c
    refine qv_g (pc' := 42) (ls' := [some (.ref m), some (.int (iI x1)), l2, some (.int (iI x3)), l4]) (st' := [.ref m]) dX7_makeLong_41 (fun _ _ => rfl) ?_
    refine qv_ic dX7_makeLong_42 ?_
    refine qv_ic dX7_makeLong_43 ?_
    exact qv_call dX7_makeLong_44 (fun _ _ => ex_calV rfl (by decide)) rfl (Nat.le_of_ble_eq_true rfl) (Nat.le_of_ble_eq_true rfl) (Nat.le_of_ble_eq_true rfl) (fun _ hm => rcv0 rfl rfl (by decide) hm) rfl rfl rfl h
theorem v128_47 {v : VS} {Q : Rs → VS → Prop} {x1 : Int} {l2 : Option Value} {x3 : Int} {l4 : Option Value}
    (h : RW g C S m A 111 0 [some (.ref m), some (.int (iI 32))] [] v (VK g C S m A 128 53 [some (.ref m), some (.int (iI x1)), l2, some (.int (iI x3)), l4] [] Q)) (hx1 : (-2147483648 : Int) ≤ x1 ∧ x1 ≤ 2147483647 := by omega) (hx3 : (-2147483648 : Int) ≤ x3 ∧ x3 ≤ 2147483647 := by omega) :
    RW g C S m A 128 47 [some (.ref m), some (.int (iI x1)), l2, some (.int (iI x3)), l4] [] v Q := by
  refine qv_R (fun hvv => ?_)
  refine qv_g (pc' := 48) (ls' := [some (.ref m), some (.int (iI x1)), l2, some (.int (iI x3)), l4]) (st' := [.ref m]) dX7_makeLong_47 (fun _ _ => rfl) ?_
  refine qv_bi dX7_makeLong_48 (by decide) ?_
  exact qv_call dX7_makeLong_50 (fun _ _ => ex_calV rfl (by decide)) rfl (Nat.le_of_ble_eq_true rfl) (Nat.le_of_ble_eq_true rfl) (Nat.le_of_ble_eq_true rfl) (fun _ hm => rcv0 rfl rfl (by decide) hm) rfl rfl rfl h
theorem v128_53 {v : VS} {Q : Rs → VS → Prop} {x1 : Int} {l2 : Option Value} {x3 : Int} {l4 : Option Value}
    (h : RW g C S m A 117 0 [some (.ref m), some (.int (iI 0)), some (.int (iI 0))] [] v (VK g C S m A 128 59 [some (.ref m), some (.int (iI x1)), l2, some (.int (iI x3)), l4] [] Q)) (hx1 : (-2147483648 : Int) ≤ x1 ∧ x1 ≤ 2147483647 := by omega) (hx3 : (-2147483648 : Int) ≤ x3 ∧ x3 ≤ 2147483647 := by omega) :
    RW g C S m A 128 53 [some (.ref m), some (.int (iI x1)), l2, some (.int (iI x3)), l4] [] v Q := by
  refine qv_R (fun hvv => ?_)
  refine qv_g (pc' := 54) (ls' := [some (.ref m), some (.int (iI x1)), l2, some (.int (iI x3)), l4]) (st' := [.ref m]) dX7_makeLong_53 (fun _ _ => rfl) ?_
  refine qv_ic dX7_makeLong_54 ?_
  refine qv_ic dX7_makeLong_55 ?_
  exact qv_call dX7_makeLong_56 (fun _ _ => ex_calV rfl (by decide)) rfl (Nat.le_of_ble_eq_true rfl) (Nat.le_of_ble_eq_true rfl) (Nat.le_of_ble_eq_true rfl) (fun _ hm => rcv0 rfl rfl (by decide) hm) rfl rfl rfl h
theorem v128_59 {v : VS} {Q : Rs → VS → Prop} {x1 : Int} {l2 : Option Value} {x3 : Int} {l4 : Option Value}
    (h : (¬ x3 = 2 → RW g C S m A 128 77 [some (.ref m), some (.int (iI x1)), l2, some (.int (iI x3)), l4] [] v Q) ∧ (x3 = 2 → RW g C S m A 112 0 [some (.ref m), some (.long (lI 139123908896)), none, none, none] [] v (VK g C S m A 128 71 [some (.ref m), some (.int (iI x1)), l2, some (.int (iI x3)), l4] [] Q))) (hx1 : (-2147483648 : Int) ≤ x1 ∧ x1 ≤ 2147483647 := by omega) (hx3 : (-2147483648 : Int) ≤ x3 ∧ x3 ≤ 2147483647 := by omega) :
    RW g C S m A 128 59 [some (.ref m), some (.int (iI x1)), l2, some (.int (iI x3)), l4] [] v Q := by
  refine qv_R (fun hvv => ?_)
  refine qv_g (pc' := 60) (ls' := [some (.ref m), some (.int (iI x1)), l2, some (.int (iI x3)), l4]) (st' := [.int (iI x3)]) dX7_makeLong_59 (fun _ _ => rfl) ?_
  refine qv_ic dX7_makeLong_60 ?_
  obtain ⟨h1, h2⟩ := h
  refine qv_icmp (t := 77) dX7_makeLong_61 (by decide) (d_ne hx3 (by decide)) (fun c => ?_) (fun c => ?_)
  · have h := h1 c
    exact h
  · have h := h2 (Decidable.of_not_not c)
    refine qv_g (pc' := 65) (ls' := [some (.ref m), some (.int (iI x1)), l2, some (.int (iI x3)), l4]) (st' := [.ref m]) dX7_makeLong_64 (fun _ _ => rfl) ?_
    refine qv_ldc2 (z := 139123908896) dX7_makeLong_65 rfl ?_
    exact qv_call dX7_makeLong_68 (fun _ _ => ex_calV rfl (by decide)) rfl (Nat.le_of_ble_eq_true rfl) (Nat.le_of_ble_eq_true rfl) (Nat.le_of_ble_eq_true rfl) (fun _ hm => rcv0 rfl rfl (by decide) hm) rfl rfl rfl h
theorem v128_71 {v : VS} {Q : Rs → VS → Prop} {x1 : Int} {l2 : Option Value} {x3 : Int} {l4 : Option Value}
    (h : RW g C S m A 117 0 [some (.ref m), some (.int (iI 0)), some (.int (iI 1))] [] v (VK g C S m A 128 77 [some (.ref m), some (.int (iI x1)), l2, some (.int (iI x3)), l4] [] Q)) (hx1 : (-2147483648 : Int) ≤ x1 ∧ x1 ≤ 2147483647 := by omega) (hx3 : (-2147483648 : Int) ≤ x3 ∧ x3 ≤ 2147483647 := by omega) :
    RW g C S m A 128 71 [some (.ref m), some (.int (iI x1)), l2, some (.int (iI x3)), l4] [] v Q := by
  refine qv_R (fun hvv => ?_)
  refine qv_g (pc' := 72) (ls' := [some (.ref m), some (.int (iI x1)), l2, some (.int (iI x3)), l4]) (st' := [.ref m]) dX7_makeLong_71 (fun _ _ => rfl) ?_
  refine qv_ic dX7_makeLong_72 ?_
  refine qv_ic dX7_makeLong_73 ?_
  exact qv_call dX7_makeLong_74 (fun _ _ => ex_calV rfl (by decide)) rfl (Nat.le_of_ble_eq_true rfl) (Nat.le_of_ble_eq_true rfl) (Nat.le_of_ble_eq_true rfl) (fun _ hm => rcv0 rfl rfl (by decide) hm) rfl rfl rfl h
theorem v128_77 {v : VS} {Q : Rs → VS → Prop} {x1 : Int} {l2 : Option Value} {x3 : Int} {l4 : Option Value}
    (h : (x3 ≤ 2 → RW g C S m A 128 89 [some (.ref m), some (.int (iI x1)), l2, some (.int (iI x3)), l4] [] v Q) ∧ (2 < x3 → RW g C S m A 112 0 [some (.ref m), some (.long (lI 13067013340816672)), none, none, none] [] v (VK g C S m A 128 89 [some (.ref m), some (.int (iI x1)), l2, some (.int (iI x3)), l4] [] Q))) (hx1 : (-2147483648 : Int) ≤ x1 ∧ x1 ≤ 2147483647 := by omega) (hx3 : (-2147483648 : Int) ≤ x3 ∧ x3 ≤ 2147483647 := by omega) :
    RW g C S m A 128 77 [some (.ref m), some (.int (iI x1)), l2, some (.int (iI x3)), l4] [] v Q := by
  refine qv_R (fun hvv => ?_)
  refine qv_g (pc' := 78) (ls' := [some (.ref m), some (.int (iI x1)), l2, some (.int (iI x3)), l4]) (st' := [.int (iI x3)]) dX7_makeLong_77 (fun _ _ => rfl) ?_
  refine qv_ic dX7_makeLong_78 ?_
  obtain ⟨h1, h2⟩ := h
  refine qv_icmp (t := 89) dX7_makeLong_79 (by decide) (d_le hx3 (by decide)) (fun c => ?_) (fun c => ?_)
  · have h := h1 c
    exact h
  · have h := h2 (Int.not_le.mp c)
    refine qv_g (pc' := 83) (ls' := [some (.ref m), some (.int (iI x1)), l2, some (.int (iI x3)), l4]) (st' := [.ref m]) dX7_makeLong_82 (fun _ _ => rfl) ?_
    refine qv_ldc2 (z := 13067013340816672) dX7_makeLong_83 rfl ?_
    exact qv_call dX7_makeLong_86 (fun _ _ => ex_calV rfl (by decide)) rfl (Nat.le_of_ble_eq_true rfl) (Nat.le_of_ble_eq_true rfl) (Nat.le_of_ble_eq_true rfl) (fun _ hm => rcv0 rfl rfl (by decide) hm) rfl rfl rfl h
theorem v128_89 {v : VS} {Q : Rs → VS → Prop} {x1 : Int} {l2 : Option Value} {l3 : Option Value} {l4 : Option Value}
    (h : RW g C S m A 103 0 [some (.ref m), some (.int (iI x1)), some (.int (iI 2)), none] [] v (VK g C S m A 128 95 [some (.ref m), some (.int (iI x1)), l2, l3, l4] [] Q)) (hx1 : (-2147483648 : Int) ≤ x1 ∧ x1 ≤ 2147483647 := by omega) :
    RW g C S m A 128 89 [some (.ref m), some (.int (iI x1)), l2, l3, l4] [] v Q := by
  refine qv_R (fun hvv => ?_)
  refine qv_g (pc' := 90) (ls' := [some (.ref m), some (.int (iI x1)), l2, l3, l4]) (st' := [.ref m]) dX7_makeLong_89 (fun _ _ => rfl) ?_
  refine qv_g (pc' := 91) (ls' := [some (.ref m), some (.int (iI x1)), l2, l3, l4]) (st' := [.int (iI x1), .ref m]) dX7_makeLong_90 (fun _ _ => rfl) ?_
  refine qv_ic dX7_makeLong_91 ?_
  exact qv_call dX7_makeLong_92 (fun _ _ => ex_calV rfl (by decide)) rfl (Nat.le_of_ble_eq_true rfl) (Nat.le_of_ble_eq_true rfl) (Nat.le_of_ble_eq_true rfl) (fun _ hm => rcv0 rfl rfl (by decide) hm) rfl rfl rfl h
theorem v128_95 {v : VS} {Q : Rs → VS → Prop} {l1 : Option Value} {l2 : Option Value} {l3 : Option Value} {l4 : Option Value} {u0 : Int}
    (h : (u0 = (-1) → RW g C S m A 128 115 [some (.ref m), l1, l2, (clr l3), some (.int (iI u0))] [] v Q) ∧ (¬ u0 = (-1) → RW g C S m A 111 0 [some (.ref m), some (.int (iI 32))] [] v (VK g C S m A 128 109 [some (.ref m), l1, l2, (clr l3), some (.int (iI u0))] [] Q))) (hu0 : (-2147483648 : Int) ≤ u0 ∧ u0 ≤ 2147483647 := by omega) :
    RW g C S m A 128 95 [some (.ref m), l1, l2, l3, l4] [.int (iI u0)] v Q := by
  refine qv_R (fun hvv => ?_)
  refine qv_g (pc' := 97) (ls' := [some (.ref m), l1, l2, (clr l3), some (.int (iI u0))]) (st' := []) dX7_makeLong_95 (fun _ _ => rfl) ?_
  refine qv_g (pc' := 99) (ls' := [some (.ref m), l1, l2, (clr l3), some (.int (iI u0))]) (st' := [.int (iI u0)]) dX7_makeLong_97 (fun _ _ => rfl) ?_
  refine qv_ic dX7_makeLong_99 ?_
  obtain ⟨h1, h2⟩ := h
  refine qv_icmp (t := 115) dX7_makeLong_100 (by decide) (d_eq hu0 (by decide)) (fun c => ?_) (fun c => ?_)
  · have h := h1 c
    exact h
  · have h := h2 c
    refine qv_g (pc' := 104) (ls' := [some (.ref m), l1, l2, (clr l3), some (.int (iI u0))]) (st' := [.ref m]) dX7_makeLong_103 (fun _ _ => rfl) ?_
    refine qv_bi dX7_makeLong_104 (by decide) ?_
    exact qv_call dX7_makeLong_106 (fun _ _ => ex_calV rfl (by decide)) rfl (Nat.le_of_ble_eq_true rfl) (Nat.le_of_ble_eq_true rfl) (Nat.le_of_ble_eq_true rfl) (fun _ hm => rcv0 rfl rfl (by decide) hm) rfl rfl rfl h
theorem v128_109 {v : VS} {Q : Rs → VS → Prop} {l1 : Option Value} {l2 : Option Value} {l3 : Option Value} {x4 : Int}
    (h : RW g C S m A 113 0 [some (.ref m), some (.int (iI x4)), none] [] v (VK g C S m A 128 115 [some (.ref m), l1, l2, l3, some (.int (iI x4))] [] Q)) (hx4 : (-2147483648 : Int) ≤ x4 ∧ x4 ≤ 2147483647 := by omega) :
    RW g C S m A 128 109 [some (.ref m), l1, l2, l3, some (.int (iI x4))] [] v Q := by
  refine qv_R (fun hvv => ?_)
  refine qv_g (pc' := 110) (ls' := [some (.ref m), l1, l2, l3, some (.int (iI x4))]) (st' := [.ref m]) dX7_makeLong_109 (fun _ _ => rfl) ?_
  refine qv_g (pc' := 112) (ls' := [some (.ref m), l1, l2, l3, some (.int (iI x4))]) (st' := [.int (iI x4), .ref m]) dX7_makeLong_110 (fun _ _ => rfl) ?_
  exact qv_call dX7_makeLong_112 (fun _ _ => ex_calV rfl (by decide)) rfl (Nat.le_of_ble_eq_true rfl) (Nat.le_of_ble_eq_true rfl) (Nat.le_of_ble_eq_true rfl) (fun _ hm => rcv0 rfl rfl (by decide) hm) rfl rfl rfl h
theorem v128_115 {v : VS} {Q : Rs → VS → Prop} {l0 : Option Value} {l1 : Option Value} {l2 : Option Value} {l3 : Option Value} {l4 : Option Value}
    (h : Q (Sum.inl none) v)  :
    RW g C S m A 128 115 [l0, l1, l2, l3, l4] [] v Q := by
  refine qv_R (fun hvv => ?_)
  exact qv_vret dX7_makeLong_115 rfl h
theorem v129_0 {v : VS} {Q : Rs → VS → Prop} {x1 : Int} {l2 : Option Value} {l3 : Option Value} {l4 : Option Value}
    (h : ((0 : Int) ≤ x1 ∧ (x1 : Int) < 24) ∧ (¬ v 12 0 = 2 → RW g C S m A 129 27 [some (.ref m), some (.int (iI x1)), some (.int (iI (v 26 x1))), l3, l4] [] v Q) ∧ (v 12 0 = 2 → RW g C S m A 126 0 [some (.ref m), some (.int (iI (v 26 x1))), none, none] [] v (VK g C S m A 129 20 [some (.ref m), some (.int (iI x1)), some (.int (iI (v 26 x1))), l3, l4] [] Q))) (hx1 : (-2147483648 : Int) ≤ x1 ∧ x1 ≤ 2147483647 := by omega) :
    RW g C S m A 129 0 [some (.ref m), some (.int (iI x1)), l2, l3, l4] [] v Q := by
  refine qv_R (fun hvv => ?_)
  refine qv_g (pc' := 1) (ls' := [some (.ref m), some (.int (iI x1)), l2, l3, l4]) (st' := [.ref m]) dX7_makeBase_0 (fun _ _ => rfl) ?_
  refine qv_getA dX7_makeBase_1 rfl rfl (by decide) ?_
  refine qv_g (pc' := 5) (ls' := [some (.ref m), some (.int (iI x1)), l2, l3, l4]) (st' := [.int (iI x1), .ref (A 26)]) dX7_makeBase_4 (fun _ _ => rfl) ?_
  obtain ⟨hr1, h⟩ := h
  refine qv_iald dX7_makeBase_5 (by decide) hr1 (by decide) ?_
  refine qv_g (pc' := 7) (ls' := [some (.ref m), some (.int (iI x1)), some (.int (iI (v 26 x1))), l3, l4]) (st' := []) dX7_makeBase_6 (fun _ _ => rfl) ?_
  refine qv_g (pc' := 8) (ls' := [some (.ref m), some (.int (iI x1)), some (.int (iI (v 26 x1))), l3, l4]) (st' := [.ref m]) dX7_makeBase_7 (fun _ _ => rfl) ?_
  refine qv_getI dX7_makeBase_8 rfl rfl rfl ?_
  refine qv_ic dX7_makeBase_11 ?_
  obtain ⟨h1, h2⟩ := h
  refine qv_icmp (t := 27) dX7_makeBase_12 (by decide) (d_ne (hvv _ _) (by decide)) (fun c => ?_) (fun c => ?_)
  · have h := h1 c
    exact h
  · have h := h2 (Decidable.of_not_not c)
    refine qv_g (pc' := 16) (ls' := [some (.ref m), some (.int (iI x1)), some (.int (iI (v 26 x1))), l3, l4]) (st' := [.ref m]) dX7_makeBase_15 (fun _ _ => rfl) ?_
    refine qv_g (pc' := 17) (ls' := [some (.ref m), some (.int (iI x1)), some (.int (iI (v 26 x1))), l3, l4]) (st' := [.int (iI (v 26 x1)), .ref m]) dX7_makeBase_16 (fun _ _ => rfl) ?_
    exact qv_call dX7_makeBase_17 (fun _ _ => ex_calV rfl (by decide)) rfl (Nat.le_of_ble_eq_true rfl) (Nat.le_of_ble_eq_true rfl) (Nat.le_of_ble_eq_true rfl) (fun _ hm => rcv0 rfl rfl (by decide) hm) rfl rfl rfl h
theorem v129_20 {v : VS} {Q : Rs → VS → Prop} {x1 : Int} {x2 : Int} {l3 : Option Value} {l4 : Option Value} {u0 : Int}
    (h : (u0 = 0 → RW g C S m A 129 27 [some (.ref m), some (.int (iI x1)), some (.int (iI x2)), l3, l4] [] v Q) ∧ (¬ u0 = 0 → RW g C S m A 129 28 [some (.ref m), some (.int (iI x1)), some (.int (iI x2)), l3, l4] [.int (iI 1)] v Q)) (hx1 : (-2147483648 : Int) ≤ x1 ∧ x1 ≤ 2147483647 := by omega) (hx2 : (-2147483648 : Int) ≤ x2 ∧ x2 ≤ 2147483647 := by omega) (hu0 : (-2147483648 : Int) ≤ u0 ∧ u0 ≤ 2147483647 := by omega) :
    RW g C S m A 129 20 [some (.ref m), some (.int (iI x1)), some (.int (iI x2)), l3, l4] [.int (iI u0)] v Q := by
  refine qv_R (fun hvv => ?_)
  obtain ⟨h1, h2⟩ := h
  refine qv_if (t := 27) dX7_makeBase_20 (by decide) (d_eq hu0 (by decide)) (fun c => ?_) (fun c => ?_)
  · have h := h1 c
    exact h
  · have h := h2 c
    refine qv_ic dX7_makeBase_23 ?_
    refine qv_goto (t := 28) dX7_makeBase_24 (by decide) ?_
    exact h
theorem v129_27 {v : VS} {Q : Rs → VS → Prop} {x1 : Int} {x2 : Int} {l3 : Option Value} {l4 : Option Value}
    (h : RW g C S m A 129 28 [some (.ref m), some (.int (iI x1)), some (.int (iI x2)), l3, l4] [.int (iI 0)] v Q) (hx1 : (-2147483648 : Int) ≤ x1 ∧ x1 ≤ 2147483647 := by omega) (hx2 : (-2147483648 : Int) ≤ x2 ∧ x2 ≤ 2147483647 := by omega) :
    RW g C S m A 129 27 [some (.ref m), some (.int (iI x1)), some (.int (iI x2)), l3, l4] [] v Q := by
  refine qv_R (fun hvv => ?_)
  refine qv_ic dX7_makeBase_27 ?_
  exact h
theorem v129_28 {v : VS} {Q : Rs → VS → Prop} {x1 : Int} {x2 : Int} {l3 : Option Value} {l4 : Option Value} {u0 : Int}
    (h : (∀ w1, w1 = uv v 21 0 0 → (¬ w1 12 0 = 1 → (¬ w1 12 0 = 2 → RW g C S m A 129 64 [some (.ref m), some (.int (iI x1)), some (.int (iI x2)), some (.int (iI u0)), l4] [] w1 Q) ∧ (w1 12 0 = 2 → RW g C S m A 128 0 [some (.ref m), some (.int (iI x2)), some (.int (iI u0)), none, none] [] w1 (VK g C S m A 129 64 [some (.ref m), some (.int (iI x1)), some (.int (iI x2)), some (.int (iI u0)), l4] [] Q))) ∧ (w1 12 0 = 1 → RW g C S m A 127 0 [some (.ref m), some (.int (iI x2)), none, none, none, none] [] w1 (VK g C S m A 129 47 [some (.ref m), some (.int (iI x1)), some (.int (iI x2)), some (.int (iI u0)), l4] [] Q)))) (hx1 : (-2147483648 : Int) ≤ x1 ∧ x1 ≤ 2147483647 := by omega) (hx2 : (-2147483648 : Int) ≤ x2 ∧ x2 ≤ 2147483647 := by omega) (hu0 : (-2147483648 : Int) ≤ u0 ∧ u0 ≤ 2147483647 := by omega) :
    RW g C S m A 129 28 [some (.ref m), some (.int (iI x1)), some (.int (iI x2)), l3, l4] [.int (iI u0)] v Q := by
  refine qv_R (fun hvv => ?_)
  refine qv_g (pc' := 29) (ls' := [some (.ref m), some (.int (iI x1)), some (.int (iI x2)), some (.int (iI u0)), l4]) (st' := []) dX7_makeBase_28 (fun _ _ => rfl) ?_
  refine qv_g (pc' := 30) (ls' := [some (.ref m), some (.int (iI x1)), some (.int (iI x2)), some (.int (iI u0)), l4]) (st' := [.ref m]) dX7_makeBase_29 (fun _ _ => rfl) ?_
  refine qv_ic dX7_makeBase_30 ?_
  refine qv_putI dX7_makeBase_31 rfl rfl (Or.inl rfl) rfl (Or.inl rfl) (by decide) ?_
  generalize ew1 : uv v 21 0 0 = w1
  replace h := h _ ew1.symm
  refine qv_R (fun hvw1 => ?_)
  refine qv_g (pc' := 35) (ls' := [some (.ref m), some (.int (iI x1)), some (.int (iI x2)), some (.int (iI u0)), l4]) (st' := [.ref m]) dX7_makeBase_34 (fun _ _ => rfl) ?_
  refine qv_getI dX7_makeBase_35 rfl rfl rfl ?_
  refine qv_ic dX7_makeBase_38 ?_
  obtain ⟨h1, h2⟩ := h
  refine qv_icmp (t := 50) dX7_makeBase_39 (by decide) (d_ne (hvw1 _ _) (by decide)) (fun c => ?_) (fun c => ?_)
  · have h := h1 c
    refine qv_g (pc' := 51) (ls' := [some (.ref m), some (.int (iI x1)), some (.int (iI x2)), some (.int (iI u0)), l4]) (st' := [.ref m]) dX7_makeBase_50 (fun _ _ => rfl) ?_
    refine qv_getI dX7_makeBase_51 rfl rfl rfl ?_
    refine qv_ic dX7_makeBase_54 ?_
    obtain ⟨h1, h2⟩ := h
    refine qv_icmp (t := 64) dX7_makeBase_55 (by decide) (d_ne (hvw1 _ _) (by decide)) (fun c => ?_) (fun c => ?_)
    · have h := h1 c
      exact h
    · have h := h2 (Decidable.of_not_not c)
      refine qv_g (pc' := 59) (ls' := [some (.ref m), some (.int (iI x1)), some (.int (iI x2)), some (.int (iI u0)), l4]) (st' := [.ref m]) dX7_makeBase_58 (fun _ _ => rfl) ?_
      refine qv_g (pc' := 60) (ls' := [some (.ref m), some (.int (iI x1)), some (.int (iI x2)), some (.int (iI u0)), l4]) (st' := [.int (iI x2), .ref m]) dX7_makeBase_59 (fun _ _ => rfl) ?_
      refine qv_g (pc' := 61) (ls' := [some (.ref m), some (.int (iI x1)), some (.int (iI x2)), some (.int (iI u0)), l4]) (st' := [.int (iI u0), .int (iI x2), .ref m]) dX7_makeBase_60 (fun _ _ => rfl) ?_
      exact qv_call dX7_makeBase_61 (fun _ _ => ex_calV rfl (by decide)) rfl (Nat.le_of_ble_eq_true rfl) (Nat.le_of_ble_eq_true rfl) (Nat.le_of_ble_eq_true rfl) (fun _ hm => rcv0 rfl rfl (by decide) hm) rfl rfl rfl h
  · have h := h2 (Decidable.of_not_not c)
    refine qv_g (pc' := 43) (ls' := [some (.ref m), some (.int (iI x1)), some (.int (iI x2)), some (.int (iI u0)), l4]) (st' := [.ref m]) dX7_makeBase_42 (fun _ _ => rfl) ?_
    refine qv_g (pc' := 44) (ls' := [some (.ref m), some (.int (iI x1)), some (.int (iI x2)), some (.int (iI u0)), l4]) (st' := [.int (iI x2), .ref m]) dX7_makeBase_43 (fun _ _ => rfl) ?_
    exact qv_call dX7_makeBase_44 (fun _ _ => ex_calV rfl (by decide)) rfl (Nat.le_of_ble_eq_true rfl) (Nat.le_of_ble_eq_true rfl) (Nat.le_of_ble_eq_true rfl) (fun _ hm => rcv0 rfl rfl (by decide) hm) rfl rfl rfl h
theorem v129_47 {v : VS} {Q : Rs → VS → Prop} {x1 : Int} {l2 : Option Value} {l3 : Option Value} {l4 : Option Value}
    (h : RW g C S m A 129 64 [some (.ref m), some (.int (iI x1)), l2, l3, l4] [] v Q) (hx1 : (-2147483648 : Int) ≤ x1 ∧ x1 ≤ 2147483647 := by omega) :
    RW g C S m A 129 47 [some (.ref m), some (.int (iI x1)), l2, l3, l4] [] v Q := by
  refine qv_R (fun hvv => ?_)
  refine qv_goto (t := 64) dX7_makeBase_47 (by decide) ?_
  exact h
theorem v129_64 {v : VS} {Q : Rs → VS → Prop} {x1 : Int} {l2 : Option Value} {l3 : Option Value} {l4 : Option Value}
    (h : ((0 : Int) ≤ x1 ∧ (x1 : Int) < 24) ∧ (∀ w2, w2 = uv v 28 x1 (v 21 0) → RW g C S m A 129 77 [some (.ref m), some (.int (iI x1)), l2, (clr l3), some (.int (iI 0))] [] w2 Q)) (hx1 : (-2147483648 : Int) ≤ x1 ∧ x1 ≤ 2147483647 := by omega) :
    RW g C S m A 129 64 [some (.ref m), some (.int (iI x1)), l2, l3, l4] [] v Q := by
  refine qv_R (fun hvv => ?_)
  refine qv_g (pc' := 65) (ls' := [some (.ref m), some (.int (iI x1)), l2, l3, l4]) (st' := [.ref m]) dX7_makeBase_64 (fun _ _ => rfl) ?_
  refine qv_getA dX7_makeBase_65 rfl rfl (by decide) ?_
  refine qv_g (pc' := 69) (ls' := [some (.ref m), some (.int (iI x1)), l2, l3, l4]) (st' := [.int (iI x1), .ref (A 28)]) dX7_makeBase_68 (fun _ _ => rfl) ?_
  refine qv_g (pc' := 70) (ls' := [some (.ref m), some (.int (iI x1)), l2, l3, l4]) (st' := [.ref m, .int (iI x1), .ref (A 28)]) dX7_makeBase_69 (fun _ _ => rfl) ?_
  refine qv_getI dX7_makeBase_70 rfl rfl rfl ?_
  obtain ⟨hr1, h⟩ := h
  refine qv_iast dX7_makeBase_73 (by decide) hr1 (by decide) (hvv _ _) ?_
  generalize ew2 : uv v 28 x1 (v 21 0) = w2
  replace h := h _ ew2.symm
  refine qv_R (fun hvw2 => ?_)
  refine qv_ic dX7_makeBase_74 ?_
  refine qv_g (pc' := 77) (ls' := [some (.ref m), some (.int (iI x1)), l2, (clr l3), some (.int (iI 0))]) (st' := []) dX7_makeBase_75 (fun _ _ => rfl) ?_
  exact h
theorem v129_77 {v : VS} {Q : Rs → VS → Prop} {x1 : Int} {l2 : Option Value} {l3 : Option Value} {x4 : Int}
    (h : (v 21 0 ≤ x4 → Q (Sum.inl none) v) ∧ (x4 < v 21 0 → ((-2147483648 : Int) ≤ 400 * x1 ∧ 400 * x1 ≤ 2147483647) ∧ ((-2147483648 : Int) ≤ (400 * x1) + x4 ∧ (400 * x1) + x4 ≤ 2147483647) ∧ ((0 : Int) ≤ x4 ∧ (x4 : Int) < 1000) ∧ ((0 : Int) ≤ (400 * x1) + x4 ∧ ((400 * x1) + x4 : Int) < 9600) ∧ (∀ w5, w5 = uv v 29 ((400 * x1) + x4) (v 20 x4) → ((-2147483648 : Int) ≤ x4 + 1 ∧ x4 + 1 ≤ 2147483647) ∧ RW g C S m A 129 77 [some (.ref m), some (.int (iI x1)), l2, (clr l3), some (.int (iI (x4 + 1)))] [] w5 Q))) (hx1 : (-2147483648 : Int) ≤ x1 ∧ x1 ≤ 2147483647 := by omega) (hx4 : (-2147483648 : Int) ≤ x4 ∧ x4 ≤ 2147483647 := by omega) :
    RW g C S m A 129 77 [some (.ref m), some (.int (iI x1)), l2, l3, some (.int (iI x4))] [] v Q := by
  refine qv_R (fun hvv => ?_)
  refine qv_g (pc' := 79) (ls' := [some (.ref m), some (.int (iI x1)), l2, l3, some (.int (iI x4))]) (st' := [.int (iI x4)]) dX7_makeBase_77 (fun _ _ => rfl) ?_
  refine qv_g (pc' := 80) (ls' := [some (.ref m), some (.int (iI x1)), l2, l3, some (.int (iI x4))]) (st' := [.ref m, .int (iI x4)]) dX7_makeBase_79 (fun _ _ => rfl) ?_
  refine qv_getI dX7_makeBase_80 rfl rfl rfl ?_
  obtain ⟨h1, h2⟩ := h
  refine qv_icmp (t := 112) dX7_makeBase_83 (by decide) (d_ge hx4 (hvv _ _)) (fun c => ?_) (fun c => ?_)
  · have h := h1 c
    exact qv_vret dX7_makeBase_112 rfl h
  · have h := h2 (Int.not_le.mp c)
    refine qv_g (pc' := 87) (ls' := [some (.ref m), some (.int (iI x1)), l2, l3, some (.int (iI x4))]) (st' := [.ref m]) dX7_makeBase_86 (fun _ _ => rfl) ?_
    refine qv_getA dX7_makeBase_87 rfl rfl (by decide) ?_
    refine qv_si dX7_makeBase_90 (by decide) ?_
    refine qv_g (pc' := 94) (ls' := [some (.ref m), some (.int (iI x1)), l2, l3, some (.int (iI x4))]) (st' := [.int (iI x1), .int (iI 400), .ref (A 29)]) dX7_makeBase_93 (fun _ _ => rfl) ?_
    obtain ⟨hr1, h⟩ := h
    refine qv_mul dX7_makeBase_94 ?_
    refine qv_g (pc' := 97) (ls' := [some (.ref m), some (.int (iI x1)), l2, l3, some (.int (iI x4))]) (st' := [.int (iI x4), .int (iI (400 * x1)), .ref (A 29)]) dX7_makeBase_95 (fun _ _ => rfl) ?_
    obtain ⟨hr2, h⟩ := h
    refine qv_add dX7_makeBase_97 ?_
    refine qv_g (pc' := 99) (ls' := [some (.ref m), some (.int (iI x1)), l2, l3, some (.int (iI x4))]) (st' := [.ref m, .int (iI ((400 * x1) + x4)), .ref (A 29)]) dX7_makeBase_98 (fun _ _ => rfl) ?_
    refine qv_getA dX7_makeBase_99 rfl rfl (by decide) ?_
    refine qv_g (pc' := 104) (ls' := [some (.ref m), some (.int (iI x1)), l2, l3, some (.int (iI x4))]) (st' := [.int (iI x4), .ref (A 20), .int (iI ((400 * x1) + x4)), .ref (A 29)]) dX7_makeBase_102 (fun _ _ => rfl) ?_
    obtain ⟨hr3, h⟩ := h
    refine qv_iald dX7_makeBase_104 (by decide) hr3 (by decide) ?_
    obtain ⟨hr4, h⟩ := h
    refine qv_iast dX7_makeBase_105 (by decide) hr4 (by decide) (hvv _ _) ?_
    generalize ew5 : uv v 29 ((400 * x1) + x4) (v 20 x4) = w5
    replace h := h _ ew5.symm
    refine qv_R (fun hvw5 => ?_)
    obtain ⟨hr6, h⟩ := h
    refine qv_inc (ls' := [some (.ref m), some (.int (iI x1)), l2, (clr l3), some (.int (iI (x4 + 1)))]) dX7_makeBase_106 rfl (Nat.le_of_ble_eq_true rfl) rfl ?_
    refine qv_goto (t := 77) dX7_makeBase_109 (by decide) ?_
    exact h
theorem v130_0 {v : VS} {Q : Rs → VS → Prop} {x1 : Int} {x2 : Int} {l3 : Option Value} {l4 : Option Value}
    (h : ((0 : Int) ≤ x1 ∧ (x1 : Int) < 24) ∧ ((0 : Int) ≤ x2 ∧ (x2 : Int) < 24) ∧ (¬ v 28 x1 = v 28 x2 → RW g C S m A 130 20 [some (.ref m), some (.int (iI x1)), some (.int (iI x2)), l3, l4] [.int (iI 0)] v Q) ∧ (v 28 x1 = v 28 x2 → RW g C S m A 130 20 [some (.ref m), some (.int (iI x1)), some (.int (iI x2)), l3, l4] [.int (iI 1)] v Q)) (hx1 : (-2147483648 : Int) ≤ x1 ∧ x1 ≤ 2147483647 := by omega) (hx2 : (-2147483648 : Int) ≤ x2 ∧ x2 ≤ 2147483647 := by omega) :
    RW g C S m A 130 0 [some (.ref m), some (.int (iI x1)), some (.int (iI x2)), l3, l4] [] v Q := by
  refine qv_R (fun hvv => ?_)
  refine qv_g (pc' := 1) (ls' := [some (.ref m), some (.int (iI x1)), some (.int (iI x2)), l3, l4]) (st' := [.ref m]) dX7_isSameBase_0 (fun _ _ => rfl) ?_
  refine qv_getA dX7_isSameBase_1 rfl rfl (by decide) ?_
  refine qv_g (pc' := 5) (ls' := [some (.ref m), some (.int (iI x1)), some (.int (iI x2)), l3, l4]) (st' := [.int (iI x1), .ref (A 28)]) dX7_isSameBase_4 (fun _ _ => rfl) ?_
  obtain ⟨hr1, h⟩ := h
  refine qv_iald dX7_isSameBase_5 (by decide) hr1 (by decide) ?_
  refine qv_g (pc' := 7) (ls' := [some (.ref m), some (.int (iI x1)), some (.int (iI x2)), l3, l4]) (st' := [.ref m, .int (iI (v 28 x1))]) dX7_isSameBase_6 (fun _ _ => rfl) ?_
  refine qv_getA dX7_isSameBase_7 rfl rfl (by decide) ?_
  refine qv_g (pc' := 11) (ls' := [some (.ref m), some (.int (iI x1)), some (.int (iI x2)), l3, l4]) (st' := [.int (iI x2), .ref (A 28), .int (iI (v 28 x1))]) dX7_isSameBase_10 (fun _ _ => rfl) ?_
  obtain ⟨hr2, h⟩ := h
  refine qv_iald dX7_isSameBase_11 (by decide) hr2 (by decide) ?_
  obtain ⟨h1, h2⟩ := h
  refine qv_icmp (t := 19) dX7_isSameBase_12 (by decide) (d_ne (hvv _ _) (hvv _ _)) (fun c => ?_) (fun c => ?_)
  · have h := h1 c
    refine qv_ic dX7_isSameBase_19 ?_
    exact h
  · have h := h2 (Decidable.of_not_not c)
    refine qv_ic dX7_isSameBase_15 ?_
    refine qv_goto (t := 20) dX7_isSameBase_16 (by decide) ?_
    exact h
theorem v130_20 {v : VS} {Q : Rs → VS → Prop} {x1 : Int} {x2 : Int} {l3 : Option Value} {l4 : Option Value} {u0 : Int}
    (h : RW g C S m A 130 24 [some (.ref m), some (.int (iI x1)), some (.int (iI x2)), some (.int (iI u0)), some (.int (iI 0))] [] v Q) (hx1 : (-2147483648 : Int) ≤ x1 ∧ x1 ≤ 2147483647 := by omega) (hx2 : (-2147483648 : Int) ≤ x2 ∧ x2 ≤ 2147483647 := by omega) (hu0 : (-2147483648 : Int) ≤ u0 ∧ u0 ≤ 2147483647 := by omega) :
    RW g C S m A 130 20 [some (.ref m), some (.int (iI x1)), some (.int (iI x2)), l3, l4] [.int (iI u0)] v Q := by
  refine qv_R (fun hvv => ?_)
  refine qv_g (pc' := 21) (ls' := [some (.ref m), some (.int (iI x1)), some (.int (iI x2)), some (.int (iI u0)), l4]) (st' := []) dX7_isSameBase_20 (fun _ _ => rfl) ?_
  refine qv_ic dX7_isSameBase_21 ?_
  refine qv_g (pc' := 24) (ls' := [some (.ref m), some (.int (iI x1)), some (.int (iI x2)), some (.int (iI u0)), some (.int (iI 0))]) (st' := []) dX7_isSameBase_22 (fun _ _ => rfl) ?_
  exact h
theorem v130_24 {v : VS} {Q : Rs → VS → Prop} {x1 : Int} {x2 : Int} {x3 : Int} {x4 : Int}
    (h : ((0 : Int) ≤ x1 ∧ (x1 : Int) < 24) ∧ (v 28 x1 ≤ x4 → RW g C S m A 130 80 [some (.ref m), some (.int (iI x1)), some (.int (iI x2)), some (.int (iI x3)), some (.int (iI x4))] [] v Q) ∧ (x4 < v 28 x1 → (x3 = 0 → RW g C S m A 130 80 [some (.ref m), some (.int (iI x1)), some (.int (iI x2)), some (.int (iI x3)), some (.int (iI x4))] [] v Q) ∧ (¬ x3 = 0 → ((-2147483648 : Int) ≤ 400 * x1 ∧ 400 * x1 ≤ 2147483647) ∧ ((-2147483648 : Int) ≤ (400 * x1) + x4 ∧ (400 * x1) + x4 ≤ 2147483647) ∧ ((0 : Int) ≤ (400 * x1) + x4 ∧ ((400 * x1) + x4 : Int) < 9600) ∧ ((-2147483648 : Int) ≤ 400 * x2 ∧ 400 * x2 ≤ 2147483647) ∧ ((-2147483648 : Int) ≤ (400 * x2) + x4 ∧ (400 * x2) + x4 ≤ 2147483647) ∧ ((0 : Int) ≤ (400 * x2) + x4 ∧ ((400 * x2) + x4 : Int) < 9600) ∧ (¬ v 29 ((400 * x1) + x4) = v 29 ((400 * x2) + x4) → RW g C S m A 130 73 [some (.ref m), some (.int (iI x1)), some (.int (iI x2)), some (.int (iI x3)), some (.int (iI x4))] [.int (iI 0)] v Q) ∧ (v 29 ((400 * x1) + x4) = v 29 ((400 * x2) + x4) → RW g C S m A 130 73 [some (.ref m), some (.int (iI x1)), some (.int (iI x2)), some (.int (iI x3)), some (.int (iI x4))] [.int (iI 1)] v Q)))) (hx1 : (-2147483648 : Int) ≤ x1 ∧ x1 ≤ 2147483647 := by omega) (hx2 : (-2147483648 : Int) ≤ x2 ∧ x2 ≤ 2147483647 := by omega) (hx3 : (-2147483648 : Int) ≤ x3 ∧ x3 ≤ 2147483647 := by omega) (hx4 : (-2147483648 : Int) ≤ x4 ∧ x4 ≤ 2147483647 := by omega) :
    RW g C S m A 130 24 [some (.ref m), some (.int (iI x1)), some (.int (iI x2)), some (.int (iI x3)), some (.int (iI x4))] [] v Q := by
  refine qv_R (fun hvv => ?_)
  refine qv_g (pc' := 26) (ls' := [some (.ref m), some (.int (iI x1)), some (.int (iI x2)), some (.int (iI x3)), some (.int (iI x4))]) (st' := [.int (iI x4)]) dX7_isSameBase_24 (fun _ _ => rfl) ?_
  refine qv_g (pc' := 27) (ls' := [some (.ref m), some (.int (iI x1)), some (.int (iI x2)), some (.int (iI x3)), some (.int (iI x4))]) (st' := [.ref m, .int (iI x4)]) dX7_isSameBase_26 (fun _ _ => rfl) ?_
  refine qv_getA dX7_isSameBase_27 rfl rfl (by decide) ?_
  refine qv_g (pc' := 31) (ls' := [some (.ref m), some (.int (iI x1)), some (.int (iI x2)), some (.int (iI x3)), some (.int (iI x4))]) (st' := [.int (iI x1), .ref (A 28), .int (iI x4)]) dX7_isSameBase_30 (fun _ _ => rfl) ?_
  obtain ⟨hr1, h⟩ := h
  refine qv_iald dX7_isSameBase_31 (by decide) hr1 (by decide) ?_
  obtain ⟨h1, h2⟩ := h
  refine qv_icmp (t := 80) dX7_isSameBase_32 (by decide) (d_ge hx4 (hvv _ _)) (fun c => ?_) (fun c => ?_)
  · have h := h1 c
    exact h
  · have h := h2 (Int.not_le.mp c)
    refine qv_g (pc' := 36) (ls' := [some (.ref m), some (.int (iI x1)), some (.int (iI x2)), some (.int (iI x3)), some (.int (iI x4))]) (st' := [.int (iI x3)]) dX7_isSameBase_35 (fun _ _ => rfl) ?_
    obtain ⟨h1, h2⟩ := h
    refine qv_if (t := 80) dX7_isSameBase_36 (by decide) (d_eq hx3 (by decide)) (fun c => ?_) (fun c => ?_)
    · have h := h1 c
      exact h
    · have h := h2 c
      refine qv_g (pc' := 40) (ls' := [some (.ref m), some (.int (iI x1)), some (.int (iI x2)), some (.int (iI x3)), some (.int (iI x4))]) (st' := [.ref m]) dX7_isSameBase_39 (fun _ _ => rfl) ?_
      refine qv_getA dX7_isSameBase_40 rfl rfl (by decide) ?_
      refine qv_si dX7_isSameBase_43 (by decide) ?_
      refine qv_g (pc' := 47) (ls' := [some (.ref m), some (.int (iI x1)), some (.int (iI x2)), some (.int (iI x3)), some (.int (iI x4))]) (st' := [.int (iI x1), .int (iI 400), .ref (A 29)]) dX7_isSameBase_46 (fun _ _ => rfl) ?_
      obtain ⟨hr2, h⟩ := h
      refine qv_mul dX7_isSameBase_47 ?_
      refine qv_g (pc' := 50) (ls' := [some (.ref m), some (.int (iI x1)), some (.int (iI x2)), some (.int (iI x3)), some (.int (iI x4))]) (st' := [.int (iI x4), .int (iI (400 * x1)), .ref (A 29)]) dX7_isSameBase_48 (fun _ _ => rfl) ?_
      obtain ⟨hr3, h⟩ := h
      refine qv_add dX7_isSameBase_50 ?_
      obtain ⟨hr4, h⟩ := h
      refine qv_iald dX7_isSameBase_51 (by decide) hr4 (by decide) ?_
      refine qv_g (pc' := 53) (ls' := [some (.ref m), some (.int (iI x1)), some (.int (iI x2)), some (.int (iI x3)), some (.int (iI x4))]) (st' := [.ref m, .int (iI (v 29 ((400 * x1) + x4)))]) dX7_isSameBase_52 (fun _ _ => rfl) ?_
      refine qv_getA dX7_isSameBase_53 rfl rfl (by decide) ?_
      refine qv_si dX7_isSameBase_56 (by decide) ?_
      refine qv_g (pc' := 60) (ls' := [some (.ref m), some (.int (iI x1)), some (.int (iI x2)), some (.int (iI x3)), some (.int (iI x4))]) (st' := [.int (iI x2), .int (iI 400), .ref (A 29), .int (iI (v 29 ((400 * x1) + x4)))]) dX7_isSameBase_59 (fun _ _ => rfl) ?_
      obtain ⟨hr5, h⟩ := h
      refine qv_mul dX7_isSameBase_60 ?_
      refine qv_g (pc' := 63) (ls' := [some (.ref m), some (.int (iI x1)), some (.int (iI x2)), some (.int (iI x3)), some (.int (iI x4))]) (st' := [.int (iI x4), .int (iI (400 * x2)), .ref (A 29), .int (iI (v 29 ((400 * x1) + x4)))]) dX7_isSameBase_61 (fun _ _ => rfl) ?_
      obtain ⟨hr6, h⟩ := h
      refine qv_add dX7_isSameBase_63 ?_
      obtain ⟨hr7, h⟩ := h
      refine qv_iald dX7_isSameBase_64 (by decide) hr7 (by decide) ?_
      obtain ⟨h1, h2⟩ := h
      refine qv_icmp (t := 72) dX7_isSameBase_65 (by decide) (d_ne (hvv _ _) (hvv _ _)) (fun c => ?_) (fun c => ?_)
      · have h := h1 c
        refine qv_ic dX7_isSameBase_72 ?_
        exact h
      · have h := h2 (Decidable.of_not_not c)
        refine qv_ic dX7_isSameBase_68 ?_
        refine qv_goto (t := 73) dX7_isSameBase_69 (by decide) ?_
        exact h
theorem v130_73 {v : VS} {Q : Rs → VS → Prop} {x1 : Int} {x2 : Int} {l3 : Option Value} {x4 : Int} {u0 : Int}
    (h : ((-2147483648 : Int) ≤ x4 + 1 ∧ x4 + 1 ≤ 2147483647) ∧ RW g C S m A 130 24 [some (.ref m), some (.int (iI x1)), some (.int (iI x2)), some (.int (iI u0)), some (.int (iI (x4 + 1)))] [] v Q) (hx1 : (-2147483648 : Int) ≤ x1 ∧ x1 ≤ 2147483647 := by omega) (hx2 : (-2147483648 : Int) ≤ x2 ∧ x2 ≤ 2147483647 := by omega) (hx4 : (-2147483648 : Int) ≤ x4 ∧ x4 ≤ 2147483647 := by omega) (hu0 : (-2147483648 : Int) ≤ u0 ∧ u0 ≤ 2147483647 := by omega) :
    RW g C S m A 130 73 [some (.ref m), some (.int (iI x1)), some (.int (iI x2)), l3, some (.int (iI x4))] [.int (iI u0)] v Q := by
  refine qv_R (fun hvv => ?_)
  refine qv_g (pc' := 74) (ls' := [some (.ref m), some (.int (iI x1)), some (.int (iI x2)), some (.int (iI u0)), some (.int (iI x4))]) (st' := []) dX7_isSameBase_73 (fun _ _ => rfl) ?_
  obtain ⟨hr1, h⟩ := h
  refine qv_inc (ls' := [some (.ref m), some (.int (iI x1)), some (.int (iI x2)), some (.int (iI u0)), some (.int (iI (x4 + 1)))]) dX7_isSameBase_74 rfl (Nat.le_of_ble_eq_true rfl) rfl ?_
  refine qv_goto (t := 24) dX7_isSameBase_77 (by decide) ?_
  exact h
theorem v130_80 {v : VS} {Q : Rs → VS → Prop} {l0 : Option Value} {l1 : Option Value} {l2 : Option Value} {x3 : Int} {l4 : Option Value}
    (h : (x3 = 0 ∨ x3 = 1) ∧ Q (Sum.inl (some (.int (iI x3)))) v) (hx3 : (-2147483648 : Int) ≤ x3 ∧ x3 ≤ 2147483647 := by omega) :
    RW g C S m A 130 80 [l0, l1, l2, some (.int (iI x3)), l4] [] v Q := by
  refine qv_R (fun hvv => ?_)
  refine qv_g (pc' := 81) (ls' := [l0, l1, l2, some (.int (iI x3)), l4]) (st' := [.int (iI x3)]) dX7_isSameBase_80 (fun _ _ => rfl) ?_
  obtain ⟨hn, h⟩ := h
  exact qv_ret dX7_isSameBase_81 (by rcases hn with q | q <;> rw [q] <;> rfl) h
theorem v131_0 {v : VS} {Q : Rs → VS → Prop} {l1 : Option Value} {l2 : Option Value} {l3 : Option Value} {l4 : Option Value}
    (h : RW g C S m A 131 2 [some (.ref m), some (.int (iI 0)), l2, l3, l4] [] v Q)  :
    RW g C S m A 131 0 [some (.ref m), l1, l2, l3, l4] [] v Q := by
  refine qv_R (fun hvv => ?_)
  refine qv_ic dX7_setLetters_0 ?_
  refine qv_g (pc' := 2) (ls' := [some (.ref m), some (.int (iI 0)), l2, l3, l4]) (st' := []) dX7_setLetters_1 (fun _ _ => rfl) ?_
  exact h
theorem v131_2 {v : VS} {Q : Rs → VS → Prop} {x1 : Int} {l2 : Option Value} {l3 : Option Value} {l4 : Option Value}
    (h : (v 25 0 ≤ x1 → Q (Sum.inl none) v) ∧ (x1 < v 25 0 → RW g C S m A 131 17 [some (.ref m), some (.int (iI x1)), some (.int (iI 0)), some (.int (iI 0)), some (.int (iI 0))] [] v Q)) (hx1 : (-2147483648 : Int) ≤ x1 ∧ x1 ≤ 2147483647 := by omega) :
    RW g C S m A 131 2 [some (.ref m), some (.int (iI x1)), l2, l3, l4] [] v Q := by
  refine qv_R (fun hvv => ?_)
  refine qv_g (pc' := 3) (ls' := [some (.ref m), some (.int (iI x1)), l2, l3, l4]) (st' := [.int (iI x1)]) dX7_setLetters_2 (fun _ _ => rfl) ?_
  refine qv_g (pc' := 4) (ls' := [some (.ref m), some (.int (iI x1)), l2, l3, l4]) (st' := [.ref m, .int (iI x1)]) dX7_setLetters_3 (fun _ _ => rfl) ?_
  refine qv_getI dX7_setLetters_4 rfl rfl rfl ?_
  obtain ⟨h1, h2⟩ := h
  refine qv_icmp (t := 90) dX7_setLetters_7 (by decide) (d_ge hx1 (hvv _ _)) (fun c => ?_) (fun c => ?_)
  · have h := h1 c
    exact qv_vret dX7_setLetters_90 rfl h
  · have h := h2 (Int.not_le.mp c)
    refine qv_ic dX7_setLetters_10 ?_
    refine qv_g (pc' := 12) (ls' := [some (.ref m), some (.int (iI x1)), some (.int (iI 0)), l3, l4]) (st' := []) dX7_setLetters_11 (fun _ _ => rfl) ?_
    refine qv_ic dX7_setLetters_12 ?_
    refine qv_g (pc' := 14) (ls' := [some (.ref m), some (.int (iI x1)), some (.int (iI 0)), some (.int (iI 0)), l4]) (st' := []) dX7_setLetters_13 (fun _ _ => rfl) ?_
    refine qv_ic dX7_setLetters_14 ?_
    refine qv_g (pc' := 17) (ls' := [some (.ref m), some (.int (iI x1)), some (.int (iI 0)), some (.int (iI 0)), some (.int (iI 0))]) (st' := []) dX7_setLetters_15 (fun _ _ => rfl) ?_
    exact h
theorem v131_17 {v : VS} {Q : Rs → VS → Prop} {x1 : Int} {x2 : Int} {x3 : Int} {x4 : Int}
    (h : (v 25 0 ≤ x4 → ((0 : Int) ≤ x1 ∧ (x1 : Int) < 24) ∧ (v 28 x1 ≤ 0 → RW g C S m A 131 82 [some (.ref m), some (.int (iI x1)), some (.int (iI x2)), some (.int (iI x3)), some (.int (iI x4))] [.int (iI x1), .ref (A 27)] v Q) ∧ (0 < v 28 x1 → (x3 ≤ 1 → RW g C S m A 131 82 [some (.ref m), some (.int (iI x1)), some (.int (iI x2)), some (.int (iI x3)), some (.int (iI x4))] [.int (iI x1), .ref (A 27)] v Q) ∧ (1 < x3 → RW g C S m A 131 83 [some (.ref m), some (.int (iI x1)), some (.int (iI x2)), some (.int (iI x3)), some (.int (iI x4))] [.int (iI x2), .int (iI x1), .ref (A 27)] v Q))) ∧ (x4 < v 25 0 → RW g C S m A 130 0 [some (.ref m), some (.int (iI x1)), some (.int (iI x4)), none, none] [] v (VK g C S m A 131 33 [some (.ref m), some (.int (iI x1)), some (.int (iI x2)), some (.int (iI x3)), some (.int (iI x4))] [] Q))) (hx1 : (-2147483648 : Int) ≤ x1 ∧ x1 ≤ 2147483647 := by omega) (hx2 : (-2147483648 : Int) ≤ x2 ∧ x2 ≤ 2147483647 := by omega) (hx3 : (-2147483648 : Int) ≤ x3 ∧ x3 ≤ 2147483647 := by omega) (hx4 : (-2147483648 : Int) ≤ x4 ∧ x4 ≤ 2147483647 := by omega) :
    RW g C S m A 131 17 [some (.ref m), some (.int (iI x1)), some (.int (iI x2)), some (.int (iI x3)), some (.int (iI x4))] [] v Q := by
  refine qv_R (fun hvv => ?_)
  refine qv_g (pc' := 19) (ls' := [some (.ref m), some (.int (iI x1)), some (.int (iI x2)), some (.int (iI x3)), some (.int (iI x4))]) (st' := [.int (iI x4)]) dX7_setLetters_17 (fun _ _ => rfl) ?_
  refine qv_g (pc' := 20) (ls' := [some (.ref m), some (.int (iI x1)), some (.int (iI x2)), some (.int (iI x3)), some (.int (iI x4))]) (st' := [.ref m, .int (iI x4)]) dX7_setLetters_19 (fun _ _ => rfl) ?_
  refine qv_getI dX7_setLetters_20 rfl rfl rfl ?_
  obtain ⟨h1, h2⟩ := h
  refine qv_icmp (t := 59) dX7_setLetters_23 (by decide) (d_ge hx4 (hvv _ _)) (fun c => ?_) (fun c => ?_)
  · have h := h1 c
    refine qv_g (pc' := 60) (ls' := [some (.ref m), some (.int (iI x1)), some (.int (iI x2)), some (.int (iI x3)), some (.int (iI x4))]) (st' := [.ref m]) dX7_setLetters_59 (fun _ _ => rfl) ?_
    refine qv_getA dX7_setLetters_60 rfl rfl (by decide) ?_
    refine qv_g (pc' := 64) (ls' := [some (.ref m), some (.int (iI x1)), some (.int (iI x2)), some (.int (iI x3)), some (.int (iI x4))]) (st' := [.int (iI x1), .ref (A 27)]) dX7_setLetters_63 (fun _ _ => rfl) ?_
    refine qv_g (pc' := 65) (ls' := [some (.ref m), some (.int (iI x1)), some (.int (iI x2)), some (.int (iI x3)), some (.int (iI x4))]) (st' := [.ref m, .int (iI x1), .ref (A 27)]) dX7_setLetters_64 (fun _ _ => rfl) ?_
    refine qv_getA dX7_setLetters_65 rfl rfl (by decide) ?_
    refine qv_g (pc' := 69) (ls' := [some (.ref m), some (.int (iI x1)), some (.int (iI x2)), some (.int (iI x3)), some (.int (iI x4))]) (st' := [.int (iI x1), .ref (A 28), .int (iI x1), .ref (A 27)]) dX7_setLetters_68 (fun _ _ => rfl) ?_
    obtain ⟨hr1, h⟩ := h
    refine qv_iald dX7_setLetters_69 (by decide) hr1 (by decide) ?_
    obtain ⟨h1, h2⟩ := h
    refine qv_if (t := 82) dX7_setLetters_70 (by decide) (d_le (hvv _ _) (by decide)) (fun c => ?_) (fun c => ?_)
    · have h := h1 c
      exact h
    · have h := h2 (Int.not_le.mp c)
      refine qv_g (pc' := 74) (ls' := [some (.ref m), some (.int (iI x1)), some (.int (iI x2)), some (.int (iI x3)), some (.int (iI x4))]) (st' := [.int (iI x3), .int (iI x1), .ref (A 27)]) dX7_setLetters_73 (fun _ _ => rfl) ?_
      refine qv_ic dX7_setLetters_74 ?_
      obtain ⟨h1, h2⟩ := h
      refine qv_icmp (t := 82) dX7_setLetters_75 (by decide) (d_le hx3 (by decide)) (fun c => ?_) (fun c => ?_)
      · have h := h1 c
        exact h
      · have h := h2 (Int.not_le.mp c)
        refine qv_g (pc' := 79) (ls' := [some (.ref m), some (.int (iI x1)), some (.int (iI x2)), some (.int (iI x3)), some (.int (iI x4))]) (st' := [.int (iI x2), .int (iI x1), .ref (A 27)]) dX7_setLetters_78 (fun _ _ => rfl) ?_
        refine qv_goto (t := 83) dX7_setLetters_79 (by decide) ?_
        exact h
  · have h := h2 (Int.not_le.mp c)
    refine qv_g (pc' := 27) (ls' := [some (.ref m), some (.int (iI x1)), some (.int (iI x2)), some (.int (iI x3)), some (.int (iI x4))]) (st' := [.ref m]) dX7_setLetters_26 (fun _ _ => rfl) ?_
    refine qv_g (pc' := 28) (ls' := [some (.ref m), some (.int (iI x1)), some (.int (iI x2)), some (.int (iI x3)), some (.int (iI x4))]) (st' := [.int (iI x1), .ref m]) dX7_setLetters_27 (fun _ _ => rfl) ?_
    refine qv_g (pc' := 30) (ls' := [some (.ref m), some (.int (iI x1)), some (.int (iI x2)), some (.int (iI x3)), some (.int (iI x4))]) (st' := [.int (iI x4), .int (iI x1), .ref m]) dX7_setLetters_28 (fun _ _ => rfl) ?_
    exact qv_call dX7_setLetters_30 (fun _ _ => ex_calV rfl (by decide)) rfl (Nat.le_of_ble_eq_true rfl) (Nat.le_of_ble_eq_true rfl) (Nat.le_of_ble_eq_true rfl) (fun _ hm => rcv0 rfl rfl (by decide) hm) rfl rfl rfl h
theorem v131_33 {v : VS} {Q : Rs → VS → Prop} {x1 : Int} {x2 : Int} {x3 : Int} {x4 : Int} {u0 : Int}
    (h : (u0 = 0 → RW g C S m A 131 53 [some (.ref m), some (.int (iI x1)), some (.int (iI x2)), some (.int (iI x3)), some (.int (iI x4))] [] v Q) ∧ (¬ u0 = 0 → ((-2147483648 : Int) ≤ x3 + 1 ∧ x3 + 1 ≤ 2147483647) ∧ (x1 < x4 → RW g C S m A 131 52 [some (.ref m), some (.int (iI x1)), some (.int (iI x2)), some (.int (iI (x3 + 1))), some (.int (iI x4))] [.int (iI x2)] v Q) ∧ (x4 ≤ x1 → ((-2147483648 : Int) ≤ x2 + 1 ∧ x2 + 1 ≤ 2147483647) ∧ RW g C S m A 131 52 [some (.ref m), some (.int (iI x1)), some (.int (iI x2)), some (.int (iI (x3 + 1))), some (.int (iI x4))] [.int (iI (x2 + 1))] v Q))) (hx1 : (-2147483648 : Int) ≤ x1 ∧ x1 ≤ 2147483647 := by omega) (hx2 : (-2147483648 : Int) ≤ x2 ∧ x2 ≤ 2147483647 := by omega) (hx3 : (-2147483648 : Int) ≤ x3 ∧ x3 ≤ 2147483647 := by omega) (hx4 : (-2147483648 : Int) ≤ x4 ∧ x4 ≤ 2147483647 := by omega) (hu0 : (-2147483648 : Int) ≤ u0 ∧ u0 ≤ 2147483647 := by omega) :
    RW g C S m A 131 33 [some (.ref m), some (.int (iI x1)), some (.int (iI x2)), some (.int (iI x3)), some (.int (iI x4))] [.int (iI u0)] v Q := by
  refine qv_R (fun hvv => ?_)
  obtain ⟨h1, h2⟩ := h
  refine qv_if (t := 53) dX7_setLetters_33 (by decide) (d_eq hu0 (by decide)) (fun c => ?_) (fun c => ?_)
  · have h := h1 c
    exact h
  · have h := h2 c
    obtain ⟨hr1, h⟩ := h
    refine qv_inc (ls' := [some (.ref m), some (.int (iI x1)), some (.int (iI x2)), some (.int (iI (x3 + 1))), some (.int (iI x4))]) dX7_setLetters_36 rfl (Nat.le_of_ble_eq_true rfl) rfl ?_
    refine qv_g (pc' := 41) (ls' := [some (.ref m), some (.int (iI x1)), some (.int (iI x2)), some (.int (iI (x3 + 1))), some (.int (iI x4))]) (st' := [.int (iI x4)]) dX7_setLetters_39 (fun _ _ => rfl) ?_
    refine qv_g (pc' := 42) (ls' := [some (.ref m), some (.int (iI x1)), some (.int (iI x2)), some (.int (iI (x3 + 1))), some (.int (iI x4))]) (st' := [.int (iI x1), .int (iI x4)]) dX7_setLetters_41 (fun _ _ => rfl) ?_
    obtain ⟨h1, h2⟩ := h
    refine qv_icmp (t := 51) dX7_setLetters_42 (by decide) (d_gt hx4 hx1) (fun c => ?_) (fun c => ?_)
    · have h := h1 c
      refine qv_g (pc' := 52) (ls' := [some (.ref m), some (.int (iI x1)), some (.int (iI x2)), some (.int (iI (x3 + 1))), some (.int (iI x4))]) (st' := [.int (iI x2)]) dX7_setLetters_51 (fun _ _ => rfl) ?_
      exact h
    · have h := h2 (Int.not_lt.mp c)
      refine qv_g (pc' := 46) (ls' := [some (.ref m), some (.int (iI x1)), some (.int (iI x2)), some (.int (iI (x3 + 1))), some (.int (iI x4))]) (st' := [.int (iI x2)]) dX7_setLetters_45 (fun _ _ => rfl) ?_
      refine qv_ic dX7_setLetters_46 ?_
      obtain ⟨hr2, h⟩ := h
      refine qv_add dX7_setLetters_47 ?_
      refine qv_goto (t := 52) dX7_setLetters_48 (by decide) ?_
      exact h
theorem v131_52 {v : VS} {Q : Rs → VS → Prop} {x1 : Int} {l2 : Option Value} {x3 : Int} {x4 : Int} {u0 : Int}
    (h : RW g C S m A 131 53 [some (.ref m), some (.int (iI x1)), some (.int (iI u0)), some (.int (iI x3)), some (.int (iI x4))] [] v Q) (hx1 : (-2147483648 : Int) ≤ x1 ∧ x1 ≤ 2147483647 := by omega) (hx3 : (-2147483648 : Int) ≤ x3 ∧ x3 ≤ 2147483647 := by omega) (hx4 : (-2147483648 : Int) ≤ x4 ∧ x4 ≤ 2147483647 := by omega) (hu0 : (-2147483648 : Int) ≤ u0 ∧ u0 ≤ 2147483647 := by omega) :
    RW g C S m A 131 52 [some (.ref m), some (.int (iI x1)), l2, some (.int (iI x3)), some (.int (iI x4))] [.int (iI u0)] v Q := by
  refine qv_R (fun hvv => ?_)
  refine qv_g (pc' := 53) (ls' := [some (.ref m), some (.int (iI x1)), some (.int (iI u0)), some (.int (iI x3)), some (.int (iI x4))]) (st' := []) dX7_setLetters_52 (fun _ _ => rfl) ?_
  exact h
theorem v131_53 {v : VS} {Q : Rs → VS → Prop} {x1 : Int} {x2 : Int} {x3 : Int} {x4 : Int}
    (h : ((-2147483648 : Int) ≤ x4 + 1 ∧ x4 + 1 ≤ 2147483647) ∧ RW g C S m A 131 17 [some (.ref m), some (.int (iI x1)), some (.int (iI x2)), some (.int (iI x3)), some (.int (iI (x4 + 1)))] [] v Q) (hx1 : (-2147483648 : Int) ≤ x1 ∧ x1 ≤ 2147483647 := by omega) (hx2 : (-2147483648 : Int) ≤ x2 ∧ x2 ≤ 2147483647 := by omega) (hx3 : (-2147483648 : Int) ≤ x3 ∧ x3 ≤ 2147483647 := by omega) (hx4 : (-2147483648 : Int) ≤ x4 ∧ x4 ≤ 2147483647 := by omega) :
    RW g C S m A 131 53 [some (.ref m), some (.int (iI x1)), some (.int (iI x2)), some (.int (iI x3)), some (.int (iI x4))] [] v Q := by
  refine qv_R (fun hvv => ?_)
  obtain ⟨hr1, h⟩ := h
  refine qv_inc (ls' := [some (.ref m), some (.int (iI x1)), some (.int (iI x2)), some (.int (iI x3)), some (.int (iI (x4 + 1)))]) dX7_setLetters_53 rfl (Nat.le_of_ble_eq_true rfl) rfl ?_
  refine qv_goto (t := 17) dX7_setLetters_56 (by decide) ?_
  exact h
theorem v131_82 {v : VS} {Q : Rs → VS → Prop} {x1 : Int} {l2 : Option Value} {l3 : Option Value} {l4 : Option Value} {u0 : Int}
    (h : RW g C S m A 131 83 [some (.ref m), some (.int (iI x1)), l2, l3, l4] [.int (iI 0), .int (iI u0), .ref (A 27)] v Q) (hx1 : (-2147483648 : Int) ≤ x1 ∧ x1 ≤ 2147483647 := by omega) (hu0 : (-2147483648 : Int) ≤ u0 ∧ u0 ≤ 2147483647 := by omega) :
    RW g C S m A 131 82 [some (.ref m), some (.int (iI x1)), l2, l3, l4] [.int (iI u0), .ref (A 27)] v Q := by
  refine qv_R (fun hvv => ?_)
  refine qv_ic dX7_setLetters_82 ?_
  exact h
theorem v131_83 {v : VS} {Q : Rs → VS → Prop} {x1 : Int} {l2 : Option Value} {l3 : Option Value} {l4 : Option Value} {u0 : Int} {u1 : Int}
    (h : ((0 : Int) ≤ u1 ∧ (u1 : Int) < 24) ∧ (∀ w2, w2 = uv v 27 u1 u0 → ((-2147483648 : Int) ≤ x1 + 1 ∧ x1 + 1 ≤ 2147483647) ∧ RW g C S m A 131 2 [some (.ref m), some (.int (iI (x1 + 1))), l2, l3, l4] [] w2 Q)) (hx1 : (-2147483648 : Int) ≤ x1 ∧ x1 ≤ 2147483647 := by omega) (hu0 : (-2147483648 : Int) ≤ u0 ∧ u0 ≤ 2147483647 := by omega) (hu1 : (-2147483648 : Int) ≤ u1 ∧ u1 ≤ 2147483647 := by omega) :
    RW g C S m A 131 83 [some (.ref m), some (.int (iI x1)), l2, l3, l4] [.int (iI u0), .int (iI u1), .ref (A 27)] v Q := by
  refine qv_R (fun hvv => ?_)
  obtain ⟨hr1, h⟩ := h
  refine qv_iast dX7_setLetters_83 (by decide) hr1 (by decide) hu0 ?_
  generalize ew2 : uv v 27 u1 u0 = w2
  replace h := h _ ew2.symm
  refine qv_R (fun hvw2 => ?_)
  obtain ⟨hr3, h⟩ := h
  refine qv_inc (ls' := [some (.ref m), some (.int (iI (x1 + 1))), l2, l3, l4]) dX7_setLetters_84 rfl (Nat.le_of_ble_eq_true rfl) rfl ?_
  refine qv_goto (t := 2) dX7_setLetters_87 (by decide) ?_
  exact h
theorem v132_0 {v : VS} {Q : Rs → VS → Prop} 
    (h : (v 21 0 ≤ v 37 0 → RW g C S m A 132 19 [some (.ref m)] [.int (iI 32), .ref m] v Q) ∧ (v 37 0 < v 21 0 → RW g C S m A 132 19 [some (.ref m)] [.int (iI 46), .ref m] v Q))  :
    RW g C S m A 132 0 [some (.ref m)] [] v Q := by
  refine qv_R (fun hvv => ?_)
  refine qv_g (pc' := 1) (ls' := [some (.ref m)]) (st' := [.ref m]) dX7_nextPiece_0 (fun _ _ => rfl) ?_
  refine qv_g (pc' := 2) (ls' := [some (.ref m)]) (st' := [.ref m, .ref m]) dX7_nextPiece_1 (fun _ _ => rfl) ?_
  refine qv_getI dX7_nextPiece_2 rfl rfl rfl ?_
  refine qv_g (pc' := 6) (ls' := [some (.ref m)]) (st' := [.ref m, .int (iI (v 21 0)), .ref m]) dX7_nextPiece_5 (fun _ _ => rfl) ?_
  refine qv_getI dX7_nextPiece_6 rfl rfl rfl ?_
  obtain ⟨h1, h2⟩ := h
  refine qv_icmp (t := 17) dX7_nextPiece_9 (by decide) (d_le (hvv _ _) (hvv _ _)) (fun c => ?_) (fun c => ?_)
  · have h := h1 c
    refine qv_bi dX7_nextPiece_17 (by decide) ?_
    exact h
  · have h := h2 (Int.not_le.mp c)
    refine qv_bi dX7_nextPiece_12 (by decide) ?_
    refine qv_goto (t := 19) dX7_nextPiece_14 (by decide) ?_
    exact h
theorem v132_19 {v : VS} {Q : Rs → VS → Prop} {u0 : Int}
    (h : RW g C S m A 111 0 [some (.ref m), some (.int (iI u0))] [] v (VK g C S m A 132 22 [some (.ref m)] [] Q)) (hu0 : (-2147483648 : Int) ≤ u0 ∧ u0 ≤ 2147483647 := by omega) :
    RW g C S m A 132 19 [some (.ref m)] [.int (iI u0), .ref m] v Q := by
  refine qv_R (fun hvv => ?_)
  exact qv_call dX7_nextPiece_19 (fun _ _ => ex_calV rfl (by decide)) rfl (Nat.le_of_ble_eq_true rfl) (Nat.le_of_ble_eq_true rfl) (Nat.le_of_ble_eq_true rfl) (fun _ hm => rcv0 rfl rfl (by decide) hm) rfl rfl rfl h
theorem v132_22 {v : VS} {Q : Rs → VS → Prop} 
    (h : ((-2147483648 : Int) ≤ (v 21 0) - 1 ∧ (v 21 0) - 1 ≤ 2147483647) ∧ ((v 21 0) - 1 ≤ v 37 0 → RW g C S m A 132 41 [some (.ref m)] [] v Q) ∧ (v 37 0 < (v 21 0) - 1 → RW g C S m A 111 0 [some (.ref m), some (.int (iI 32))] [] v (VK g C S m A 132 41 [some (.ref m)] [] Q)))  :
    RW g C S m A 132 22 [some (.ref m)] [] v Q := by
  refine qv_R (fun hvv => ?_)
  refine qv_g (pc' := 23) (ls' := [some (.ref m)]) (st' := [.ref m]) dX7_nextPiece_22 (fun _ _ => rfl) ?_
  refine qv_getI dX7_nextPiece_23 rfl rfl rfl ?_
  refine qv_ic dX7_nextPiece_26 ?_
  obtain ⟨hr1, h⟩ := h
  refine qv_sub dX7_nextPiece_27 ?_
  refine qv_g (pc' := 29) (ls' := [some (.ref m)]) (st' := [.ref m, .int (iI ((v 21 0) - 1))]) dX7_nextPiece_28 (fun _ _ => rfl) ?_
  refine qv_getI dX7_nextPiece_29 rfl rfl rfl ?_
  obtain ⟨h1, h2⟩ := h
  refine qv_icmp (t := 41) dX7_nextPiece_32 (by decide) (d_le hr1 (hvv _ _)) (fun c => ?_) (fun c => ?_)
  · have h := h1 c
    exact h
  · have h := h2 (Int.not_le.mp c)
    refine qv_g (pc' := 36) (ls' := [some (.ref m)]) (st' := [.ref m]) dX7_nextPiece_35 (fun _ _ => rfl) ?_
    refine qv_bi dX7_nextPiece_36 (by decide) ?_
    exact qv_call dX7_nextPiece_38 (fun _ _ => ex_calV rfl (by decide)) rfl (Nat.le_of_ble_eq_true rfl) (Nat.le_of_ble_eq_true rfl) (Nat.le_of_ble_eq_true rfl) (fun _ hm => rcv0 rfl rfl (by decide) hm) rfl rfl rfl h
theorem v132_41 {v : VS} {Q : Rs → VS → Prop} {l0 : Option Value}
    (h : Q (Sum.inl none) v)  :
    RW g C S m A 132 41 [l0] [] v Q := by
  refine qv_R (fun hvv => ?_)
  exact qv_vret dX7_nextPiece_41 rfl h
theorem v133_0 {v : VS} {Q : Rs → VS → Prop} {x1 : Int}
    (h : RW g C S m A 117 0 [some (.ref m), some (.int (iI 0)), some (.int (iI x1))] [] v (VK g C S m A 133 6 [some (.ref m), some (.int (iI x1))] [] Q)) (hx1 : (-2147483648 : Int) ≤ x1 ∧ x1 ≤ 2147483647 := by omega) :
    RW g C S m A 133 0 [some (.ref m), some (.int (iI x1))] [] v Q := by
  refine qv_R (fun hvv => ?_)
  refine qv_g (pc' := 1) (ls' := [some (.ref m), some (.int (iI x1))]) (st' := [.ref m]) dX7_putFull_0 (fun _ _ => rfl) ?_
  refine qv_ic dX7_putFull_1 ?_
  refine qv_g (pc' := 3) (ls' := [some (.ref m), some (.int (iI x1))]) (st' := [.int (iI x1), .int (iI 0), .ref m]) dX7_putFull_2 (fun _ _ => rfl) ?_
  exact qv_call dX7_putFull_3 (fun _ _ => ex_calV rfl (by decide)) rfl (Nat.le_of_ble_eq_true rfl) (Nat.le_of_ble_eq_true rfl) (Nat.le_of_ble_eq_true rfl) (fun _ hm => rcv0 rfl rfl (by decide) hm) rfl rfl rfl h
theorem v133_6 {v : VS} {Q : Rs → VS → Prop} {x1 : Int}
    (h : RW g C S m A 116 0 [some (.ref m), some (.int (iI 0)), some (.int (iI x1)), some (.int (iI 0)), none, none] [] v (VK g C S m A 133 13 [some (.ref m), some (.int (iI x1))] [] Q)) (hx1 : (-2147483648 : Int) ≤ x1 ∧ x1 ≤ 2147483647 := by omega) :
    RW g C S m A 133 6 [some (.ref m), some (.int (iI x1))] [] v Q := by
  refine qv_R (fun hvv => ?_)
  refine qv_g (pc' := 7) (ls' := [some (.ref m), some (.int (iI x1))]) (st' := [.ref m]) dX7_putFull_6 (fun _ _ => rfl) ?_
  refine qv_ic dX7_putFull_7 ?_
  refine qv_g (pc' := 9) (ls' := [some (.ref m), some (.int (iI x1))]) (st' := [.int (iI x1), .int (iI 0), .ref m]) dX7_putFull_8 (fun _ _ => rfl) ?_
  refine qv_ic dX7_putFull_9 ?_
  exact qv_call dX7_putFull_10 (fun _ _ => ex_calV rfl (by decide)) rfl (Nat.le_of_ble_eq_true rfl) (Nat.le_of_ble_eq_true rfl) (Nat.le_of_ble_eq_true rfl) (fun _ hm => rcv0 rfl rfl (by decide) hm) rfl rfl rfl h
theorem v133_13 {v : VS} {Q : Rs → VS → Prop} {x1 : Int} {u0 : Int}
    (h : (u0 = 0 → RW g C S m A 133 34 [some (.ref m), some (.int (iI x1))] [] v Q) ∧ (¬ u0 = 0 → RW g C S m A 111 0 [some (.ref m), some (.int (iI 44))] [] v (VK g C S m A 133 22 [some (.ref m), some (.int (iI x1))] [] Q))) (hx1 : (-2147483648 : Int) ≤ x1 ∧ x1 ≤ 2147483647 := by omega) (hu0 : (-2147483648 : Int) ≤ u0 ∧ u0 ≤ 2147483647 := by omega) :
    RW g C S m A 133 13 [some (.ref m), some (.int (iI x1))] [.int (iI u0)] v Q := by
  refine qv_R (fun hvv => ?_)
  obtain ⟨h1, h2⟩ := h
  refine qv_if (t := 34) dX7_putFull_13 (by decide) (d_eq hu0 (by decide)) (fun c => ?_) (fun c => ?_)
  · have h := h1 c
    exact h
  · have h := h2 c
    refine qv_g (pc' := 17) (ls' := [some (.ref m), some (.int (iI x1))]) (st' := [.ref m]) dX7_putFull_16 (fun _ _ => rfl) ?_
    refine qv_bi dX7_putFull_17 (by decide) ?_
    exact qv_call dX7_putFull_19 (fun _ _ => ex_calV rfl (by decide)) rfl (Nat.le_of_ble_eq_true rfl) (Nat.le_of_ble_eq_true rfl) (Nat.le_of_ble_eq_true rfl) (fun _ hm => rcv0 rfl rfl (by decide) hm) rfl rfl rfl h
theorem v133_22 {v : VS} {Q : Rs → VS → Prop} {x1 : Int}
    (h : RW g C S m A 111 0 [some (.ref m), some (.int (iI 32))] [] v (VK g C S m A 133 28 [some (.ref m), some (.int (iI x1))] [] Q)) (hx1 : (-2147483648 : Int) ≤ x1 ∧ x1 ≤ 2147483647 := by omega) :
    RW g C S m A 133 22 [some (.ref m), some (.int (iI x1))] [] v Q := by
  refine qv_R (fun hvv => ?_)
  refine qv_g (pc' := 23) (ls' := [some (.ref m), some (.int (iI x1))]) (st' := [.ref m]) dX7_putFull_22 (fun _ _ => rfl) ?_
  refine qv_bi dX7_putFull_23 (by decide) ?_
  exact qv_call dX7_putFull_25 (fun _ _ => ex_calV rfl (by decide)) rfl (Nat.le_of_ble_eq_true rfl) (Nat.le_of_ble_eq_true rfl) (Nat.le_of_ble_eq_true rfl) (fun _ hm => rcv0 rfl rfl (by decide) hm) rfl rfl rfl h
theorem v133_28 {v : VS} {Q : Rs → VS → Prop} {x1 : Int}
    (h : RW g C S m A 118 0 [some (.ref m), some (.int (iI 0)), some (.int (iI x1)), none, none] [] v (VK g C S m A 133 34 [some (.ref m), some (.int (iI x1))] [] Q)) (hx1 : (-2147483648 : Int) ≤ x1 ∧ x1 ≤ 2147483647 := by omega) :
    RW g C S m A 133 28 [some (.ref m), some (.int (iI x1))] [] v Q := by
  refine qv_R (fun hvv => ?_)
  refine qv_g (pc' := 29) (ls' := [some (.ref m), some (.int (iI x1))]) (st' := [.ref m]) dX7_putFull_28 (fun _ _ => rfl) ?_
  refine qv_ic dX7_putFull_29 ?_
  refine qv_g (pc' := 31) (ls' := [some (.ref m), some (.int (iI x1))]) (st' := [.int (iI x1), .int (iI 0), .ref m]) dX7_putFull_30 (fun _ _ => rfl) ?_
  exact qv_call dX7_putFull_31 (fun _ _ => ex_calV rfl (by decide)) rfl (Nat.le_of_ble_eq_true rfl) (Nat.le_of_ble_eq_true rfl) (Nat.le_of_ble_eq_true rfl) (fun _ hm => rcv0 rfl rfl (by decide) hm) rfl rfl rfl h
theorem v133_34 {v : VS} {Q : Rs → VS → Prop} {l0 : Option Value} {l1 : Option Value}
    (h : Q (Sum.inl none) v)  :
    RW g C S m A 133 34 [l0, l1] [] v Q := by
  refine qv_R (fun hvv => ?_)
  exact qv_vret dX7_putFull_34 rfl h
end Blk
