section Blk
variable {g : Nat → Nat} {C S m : Nat} {A : Nat → Nat}
theorem v134_0 {v : VS} {Q : Rs → VS → Prop} {x1 : Int} {l2 : Option Value} {l3 : Option Value}
    (h : RW g C S m A 110 0 [some (.ref m), some (.int (iI 0)), some (.int (iI x1)), none, none, none, none, none, none, none, none, none, none, none] [] v (VK g C S m A 134 6 [some (.ref m), some (.int (iI x1)), l2, l3] [] Q)) (hx1 : (-2147483648 : Int) ≤ x1 ∧ x1 ≤ 2147483647 := by omega) :
    RW g C S m A 134 0 [some (.ref m), some (.int (iI x1)), l2, l3] [] v Q := by
  refine qv_R (fun hvv => ?_)
  refine qv_g (pc' := 1) (ls' := [some (.ref m), some (.int (iI x1)), l2, l3]) (st' := [.ref m]) dX7_piecePersons_0 (fun _ _ => rfl) ?_
  refine qv_ic dX7_piecePersons_1 ?_
  refine qv_g (pc' := 3) (ls' := [some (.ref m), some (.int (iI x1)), l2, l3]) (st' := [.int (iI x1), .int (iI 0), .ref m]) dX7_piecePersons_2 (fun _ _ => rfl) ?_
  exact qv_call dX7_piecePersons_3 (fun _ _ => ex_calV rfl (by decide)) rfl (Nat.le_of_ble_eq_true rfl) (Nat.le_of_ble_eq_true rfl) (Nat.le_of_ble_eq_true rfl) (fun _ hm => rcv0 rfl rfl (by decide) hm) rfl rfl rfl h
theorem v134_6 {v : VS} {Q : Rs → VS → Prop} {l1 : Option Value} {l2 : Option Value} {l3 : Option Value}
    (h : ((0 : Int) ≤ 0 ∧ (0 : Int) < 2) ∧ (¬ v 19 0 = 0 → RW g C S m A 132 0 [some (.ref m)] [] v (VK g C S m A 134 22 [some (.ref m), (clr l1), some (.int (iI (v 19 0))), l3] [] Q)) ∧ (v 19 0 = 0 → Q (Sum.inl none) v))  :
    RW g C S m A 134 6 [some (.ref m), l1, l2, l3] [] v Q := by
  refine qv_R (fun hvv => ?_)
  refine qv_g (pc' := 7) (ls' := [some (.ref m), l1, l2, l3]) (st' := [.ref m]) dX7_piecePersons_6 (fun _ _ => rfl) ?_
  refine qv_getA dX7_piecePersons_7 rfl rfl (by decide) ?_
  refine qv_ic dX7_piecePersons_10 ?_
  obtain ⟨hr1, h⟩ := h
  refine qv_iald dX7_piecePersons_11 (by decide) hr1 (by decide) ?_
  refine qv_g (pc' := 13) (ls' := [some (.ref m), (clr l1), some (.int (iI (v 19 0))), l3]) (st' := []) dX7_piecePersons_12 (fun _ _ => rfl) ?_
  refine qv_g (pc' := 14) (ls' := [some (.ref m), (clr l1), some (.int (iI (v 19 0))), l3]) (st' := [.int (iI (v 19 0))]) dX7_piecePersons_13 (fun _ _ => rfl) ?_
  obtain ⟨h1, h2⟩ := h
  refine qv_if (t := 18) dX7_piecePersons_14 (by decide) (d_ne (hvv _ _) (by decide)) (fun c => ?_) (fun c => ?_)
  · have h := h1 c
    refine qv_g (pc' := 19) (ls' := [some (.ref m), (clr l1), some (.int (iI (v 19 0))), l3]) (st' := [.ref m]) dX7_piecePersons_18 (fun _ _ => rfl) ?_
    exact qv_call dX7_piecePersons_19 (fun _ _ => ex_calV rfl (by decide)) rfl (Nat.le_of_ble_eq_true rfl) (Nat.le_of_ble_eq_true rfl) (Nat.le_of_ble_eq_true rfl) (fun _ hm => rcv0 rfl rfl (by decide) hm) rfl rfl rfl h
  · have h := h2 (Decidable.of_not_not c)
    exact qv_vret dX7_piecePersons_17 rfl h
theorem v134_22 {v : VS} {Q : Rs → VS → Prop} {l1 : Option Value} {x2 : Int} {l3 : Option Value}
    (h : (x2 ≤ 3 → RW g C S m A 134 42 [some (.ref m), l1, some (.int (iI x2)), some (.int (iI 0))] [] v Q) ∧ (3 < x2 → RW g C S m A 133 0 [some (.ref m), some (.int (iI 0))] [] v (VK g C S m A 134 32 [some (.ref m), l1, some (.int (iI x2)), l3] [] Q))) (hx2 : (-2147483648 : Int) ≤ x2 ∧ x2 ≤ 2147483647 := by omega) :
    RW g C S m A 134 22 [some (.ref m), l1, some (.int (iI x2)), l3] [] v Q := by
  refine qv_R (fun hvv => ?_)
  refine qv_g (pc' := 23) (ls' := [some (.ref m), l1, some (.int (iI x2)), l3]) (st' := [.int (iI x2)]) dX7_piecePersons_22 (fun _ _ => rfl) ?_
  refine qv_ic dX7_piecePersons_23 ?_
  obtain ⟨h1, h2⟩ := h
  refine qv_icmp (t := 40) dX7_piecePersons_24 (by decide) (d_le hx2 (by decide)) (fun c => ?_) (fun c => ?_)
  · have h := h1 c
    refine qv_ic dX7_piecePersons_40 ?_
    refine qv_g (pc' := 42) (ls' := [some (.ref m), l1, some (.int (iI x2)), some (.int (iI 0))]) (st' := []) dX7_piecePersons_41 (fun _ _ => rfl) ?_
    exact h
  · have h := h2 (Int.not_le.mp c)
    refine qv_g (pc' := 28) (ls' := [some (.ref m), l1, some (.int (iI x2)), l3]) (st' := [.ref m]) dX7_piecePersons_27 (fun _ _ => rfl) ?_
    refine qv_ic dX7_piecePersons_28 ?_
    exact qv_call dX7_piecePersons_29 (fun _ _ => ex_calV rfl (by decide)) rfl (Nat.le_of_ble_eq_true rfl) (Nat.le_of_ble_eq_true rfl) (Nat.le_of_ble_eq_true rfl) (fun _ hm => rcv0 rfl rfl (by decide) hm) rfl rfl rfl h
theorem v134_32 {v : VS} {Q : Rs → VS → Prop} {l1 : Option Value} {l2 : Option Value} {l3 : Option Value}
    (h : RW g C S m A 112 0 [some (.ref m), some (.long (lI 13067013340816672)), none, none, none] [] v (VK g C S m A 134 39 [some (.ref m), l1, l2, l3] [] Q))  :
    RW g C S m A 134 32 [some (.ref m), l1, l2, l3] [] v Q := by
  refine qv_R (fun hvv => ?_)
  refine qv_g (pc' := 33) (ls' := [some (.ref m), l1, l2, l3]) (st' := [.ref m]) dX7_piecePersons_32 (fun _ _ => rfl) ?_
  refine qv_ldc2 (z := 13067013340816672) dX7_piecePersons_33 rfl ?_
  exact qv_call dX7_piecePersons_36 (fun _ _ => ex_calV rfl (by decide)) rfl (Nat.le_of_ble_eq_true rfl) (Nat.le_of_ble_eq_true rfl) (Nat.le_of_ble_eq_true rfl) (fun _ hm => rcv0 rfl rfl (by decide) hm) rfl rfl rfl h
theorem v134_39 {v : VS} {Q : Rs → VS → Prop} {l0 : Option Value} {l1 : Option Value} {l2 : Option Value} {l3 : Option Value}
    (h : Q (Sum.inl none) v)  :
    RW g C S m A 134 39 [l0, l1, l2, l3] [] v Q := by
  refine qv_R (fun hvv => ?_)
  exact qv_vret dX7_piecePersons_39 rfl h
theorem v134_42 {v : VS} {Q : Rs → VS → Prop} {l1 : Option Value} {x2 : Int} {x3 : Int}
    (h : (x2 ≤ x3 → Q (Sum.inl none) v) ∧ (x3 < x2 → (x3 ≤ 0 → RW g C S m A 134 71 [some (.ref m), l1, some (.int (iI x2)), some (.int (iI x3))] [] v Q) ∧ (0 < x3 → ((-2147483648 : Int) ≤ x2 - 1 ∧ x2 - 1 ≤ 2147483647) ∧ (¬ x3 = x2 - 1 → RW g C S m A 134 68 [some (.ref m), l1, some (.int (iI x2)), some (.int (iI x3))] [.long (lI 8236), .ref m] v Q) ∧ (x3 = x2 - 1 → RW g C S m A 134 68 [some (.ref m), l1, some (.int (iI x2)), some (.int (iI x3))] [.long (lI 139123908896), .ref m] v Q)))) (hx2 : (-2147483648 : Int) ≤ x2 ∧ x2 ≤ 2147483647 := by omega) (hx3 : (-2147483648 : Int) ≤ x3 ∧ x3 ≤ 2147483647 := by omega) :
    RW g C S m A 134 42 [some (.ref m), l1, some (.int (iI x2)), some (.int (iI x3))] [] v Q := by
  refine qv_R (fun hvv => ?_)
  refine qv_g (pc' := 43) (ls' := [some (.ref m), l1, some (.int (iI x2)), some (.int (iI x3))]) (st' := [.int (iI x3)]) dX7_piecePersons_42 (fun _ _ => rfl) ?_
  refine qv_g (pc' := 44) (ls' := [some (.ref m), l1, some (.int (iI x2)), some (.int (iI x3))]) (st' := [.int (iI x2), .int (iI x3)]) dX7_piecePersons_43 (fun _ _ => rfl) ?_
  obtain ⟨h1, h2⟩ := h
  refine qv_icmp (t := 82) dX7_piecePersons_44 (by decide) (d_ge hx3 hx2) (fun c => ?_) (fun c => ?_)
  · have h := h1 c
    exact qv_vret dX7_piecePersons_82 rfl h
  · have h := h2 (Int.not_le.mp c)
    refine qv_g (pc' := 48) (ls' := [some (.ref m), l1, some (.int (iI x2)), some (.int (iI x3))]) (st' := [.int (iI x3)]) dX7_piecePersons_47 (fun _ _ => rfl) ?_
    obtain ⟨h1, h2⟩ := h
    refine qv_if (t := 71) dX7_piecePersons_48 (by decide) (d_le hx3 (by decide)) (fun c => ?_) (fun c => ?_)
    · have h := h1 c
      exact h
    · have h := h2 (Int.not_le.mp c)
      refine qv_g (pc' := 52) (ls' := [some (.ref m), l1, some (.int (iI x2)), some (.int (iI x3))]) (st' := [.ref m]) dX7_piecePersons_51 (fun _ _ => rfl) ?_
      refine qv_g (pc' := 53) (ls' := [some (.ref m), l1, some (.int (iI x2)), some (.int (iI x3))]) (st' := [.int (iI x3), .ref m]) dX7_piecePersons_52 (fun _ _ => rfl) ?_
      refine qv_g (pc' := 54) (ls' := [some (.ref m), l1, some (.int (iI x2)), some (.int (iI x3))]) (st' := [.int (iI x2), .int (iI x3), .ref m]) dX7_piecePersons_53 (fun _ _ => rfl) ?_
      refine qv_ic dX7_piecePersons_54 ?_
      obtain ⟨hr1, h⟩ := h
      refine qv_sub dX7_piecePersons_55 ?_
      obtain ⟨h1, h2⟩ := h
      refine qv_icmp (t := 65) dX7_piecePersons_56 (by decide) (d_ne hx3 hr1) (fun c => ?_) (fun c => ?_)
      · have h := h1 c
        refine qv_ldc2 (z := 8236) dX7_piecePersons_65 rfl ?_
        exact h
      · have h := h2 (Decidable.of_not_not c)
        refine qv_ldc2 (z := 139123908896) dX7_piecePersons_59 rfl ?_
        refine qv_goto (t := 68) dX7_piecePersons_62 (by decide) ?_
        exact h
theorem v134_68 {v : VS} {Q : Rs → VS → Prop} {l1 : Option Value} {x2 : Int} {x3 : Int} {z0 : Int}
    (h : RW g C S m A 112 0 [some (.ref m), some (.long (lI z0)), none, none, none] [] v (VK g C S m A 134 71 [some (.ref m), l1, some (.int (iI x2)), some (.int (iI x3))] [] Q)) (hx2 : (-2147483648 : Int) ≤ x2 ∧ x2 ≤ 2147483647 := by omega) (hx3 : (-2147483648 : Int) ≤ x3 ∧ x3 ≤ 2147483647 := by omega) (hz0 : 0 ≤ z0 ∧ z0 < 9223372036854775808 := by omega) :
    RW g C S m A 134 68 [some (.ref m), l1, some (.int (iI x2)), some (.int (iI x3))] [.long (lI z0), .ref m] v Q := by
  refine qv_R (fun hvv => ?_)
  exact qv_call dX7_piecePersons_68 (fun _ _ => ex_calV rfl (by decide)) rfl (Nat.le_of_ble_eq_true rfl) (Nat.le_of_ble_eq_true rfl) (Nat.le_of_ble_eq_true rfl) (fun _ hm => rcv0 rfl rfl (by decide) hm) rfl rfl rfl h
theorem v134_71 {v : VS} {Q : Rs → VS → Prop} {l1 : Option Value} {x2 : Int} {x3 : Int}
    (h : RW g C S m A 133 0 [some (.ref m), some (.int (iI x3))] [] v (VK g C S m A 134 76 [some (.ref m), l1, some (.int (iI x2)), some (.int (iI x3))] [] Q)) (hx2 : (-2147483648 : Int) ≤ x2 ∧ x2 ≤ 2147483647 := by omega) (hx3 : (-2147483648 : Int) ≤ x3 ∧ x3 ≤ 2147483647 := by omega) :
    RW g C S m A 134 71 [some (.ref m), l1, some (.int (iI x2)), some (.int (iI x3))] [] v Q := by
  refine qv_R (fun hvv => ?_)
  refine qv_g (pc' := 72) (ls' := [some (.ref m), l1, some (.int (iI x2)), some (.int (iI x3))]) (st' := [.ref m]) dX7_piecePersons_71 (fun _ _ => rfl) ?_
  refine qv_g (pc' := 73) (ls' := [some (.ref m), l1, some (.int (iI x2)), some (.int (iI x3))]) (st' := [.int (iI x3), .ref m]) dX7_piecePersons_72 (fun _ _ => rfl) ?_
  exact qv_call dX7_piecePersons_73 (fun _ _ => ex_calV rfl (by decide)) rfl (Nat.le_of_ble_eq_true rfl) (Nat.le_of_ble_eq_true rfl) (Nat.le_of_ble_eq_true rfl) (fun _ hm => rcv0 rfl rfl (by decide) hm) rfl rfl rfl h
theorem v134_76 {v : VS} {Q : Rs → VS → Prop} {l1 : Option Value} {x2 : Int} {x3 : Int}
    (h : ((-2147483648 : Int) ≤ x3 + 1 ∧ x3 + 1 ≤ 2147483647) ∧ RW g C S m A 134 42 [some (.ref m), l1, some (.int (iI x2)), some (.int (iI (x3 + 1)))] [] v Q) (hx2 : (-2147483648 : Int) ≤ x2 ∧ x2 ≤ 2147483647 := by omega) (hx3 : (-2147483648 : Int) ≤ x3 ∧ x3 ≤ 2147483647 := by omega) :
    RW g C S m A 134 76 [some (.ref m), l1, some (.int (iI x2)), some (.int (iI x3))] [] v Q := by
  refine qv_R (fun hvv => ?_)
  obtain ⟨hr1, h⟩ := h
  refine qv_inc (ls' := [some (.ref m), l1, some (.int (iI x2)), some (.int (iI (x3 + 1)))]) dX7_piecePersons_76 rfl (Nat.le_of_ble_eq_true rfl) rfl ?_
  refine qv_goto (t := 42) dX7_piecePersons_79 (by decide) ?_
  exact h
theorem v135_0 {v : VS} {Q : Rs → VS → Prop} {x1 : Int}
    (h : (x1 = (-1) → RW g C S m A 135 14 [some (.ref m), some (.int (iI x1))] [] v Q) ∧ (¬ x1 = (-1) → RW g C S m A 132 0 [some (.ref m)] [] v (VK g C S m A 135 9 [some (.ref m), some (.int (iI x1))] [] Q))) (hx1 : (-2147483648 : Int) ≤ x1 ∧ x1 ≤ 2147483647 := by omega) :
    RW g C S m A 135 0 [some (.ref m), some (.int (iI x1))] [] v Q := by
  refine qv_R (fun hvv => ?_)
  refine qv_g (pc' := 1) (ls' := [some (.ref m), some (.int (iI x1))]) (st' := [.int (iI x1)]) dX7_pieceField_0 (fun _ _ => rfl) ?_
  refine qv_ic dX7_pieceField_1 ?_
  obtain ⟨h1, h2⟩ := h
  refine qv_icmp (t := 14) dX7_pieceField_2 (by decide) (d_eq hx1 (by decide)) (fun c => ?_) (fun c => ?_)
  · have h := h1 c
    exact h
  · have h := h2 c
    refine qv_g (pc' := 6) (ls' := [some (.ref m), some (.int (iI x1))]) (st' := [.ref m]) dX7_pieceField_5 (fun _ _ => rfl) ?_
    exact qv_call dX7_pieceField_6 (fun _ _ => ex_calV rfl (by decide)) rfl (Nat.le_of_ble_eq_true rfl) (Nat.le_of_ble_eq_true rfl) (Nat.le_of_ble_eq_true rfl) (fun _ hm => rcv0 rfl rfl (by decide) hm) rfl rfl rfl h
theorem v135_9 {v : VS} {Q : Rs → VS → Prop} {x1 : Int}
    (h : RW g C S m A 113 0 [some (.ref m), some (.int (iI x1)), none] [] v (VK g C S m A 135 14 [some (.ref m), some (.int (iI x1))] [] Q)) (hx1 : (-2147483648 : Int) ≤ x1 ∧ x1 ≤ 2147483647 := by omega) :
    RW g C S m A 135 9 [some (.ref m), some (.int (iI x1))] [] v Q := by
  refine qv_R (fun hvv => ?_)
  refine qv_g (pc' := 10) (ls' := [some (.ref m), some (.int (iI x1))]) (st' := [.ref m]) dX7_pieceField_9 (fun _ _ => rfl) ?_
  refine qv_g (pc' := 11) (ls' := [some (.ref m), some (.int (iI x1))]) (st' := [.int (iI x1), .ref m]) dX7_pieceField_10 (fun _ _ => rfl) ?_
  exact qv_call dX7_pieceField_11 (fun _ _ => ex_calV rfl (by decide)) rfl (Nat.le_of_ble_eq_true rfl) (Nat.le_of_ble_eq_true rfl) (Nat.le_of_ble_eq_true rfl) (fun _ hm => rcv0 rfl rfl (by decide) hm) rfl rfl rfl h
theorem v135_14 {v : VS} {Q : Rs → VS → Prop} {l0 : Option Value} {l1 : Option Value}
    (h : Q (Sum.inl none) v)  :
    RW g C S m A 135 14 [l0, l1] [] v Q := by
  refine qv_R (fun hvv => ?_)
  exact qv_vret dX7_pieceField_14 rfl h
theorem v136_0 {v : VS} {Q : Rs → VS → Prop} {x1 : Int} {l2 : Option Value} {l3 : Option Value} {l4 : Option Value}
    (h : ((0 : Int) ≤ x1 ∧ (x1 : Int) < 24) ∧ (v 2 x1 = 0 → RW g C S m A 136 37 [some (.ref m), some (.int (iI x1)), some (.int (iI (v 2 x1))), l3, l4] [] v Q) ∧ (¬ v 2 x1 = 0 → (v 2 x1 = 2 → RW g C S m A 136 37 [some (.ref m), some (.int (iI x1)), some (.int (iI (v 2 x1))), l3, l4] [] v Q) ∧ (¬ v 2 x1 = 2 → (¬ v 2 x1 = 4 → RW g C S m A 136 30 [some (.ref m), some (.int (iI x1)), some (.int (iI (v 2 x1))), l3, l4] [.int (iI 4), .int (iI x1), .ref m, .ref m] v Q) ∧ (v 2 x1 = 4 → RW g C S m A 136 30 [some (.ref m), some (.int (iI x1)), some (.int (iI (v 2 x1))), l3, l4] [.int (iI 7), .int (iI x1), .ref m, .ref m] v Q)))) (hx1 : (-2147483648 : Int) ≤ x1 ∧ x1 ≤ 2147483647 := by omega) :
    RW g C S m A 136 0 [some (.ref m), some (.int (iI x1)), l2, l3, l4] [] v Q := by
  refine qv_R (fun hvv => ?_)
  refine qv_g (pc' := 1) (ls' := [some (.ref m), some (.int (iI x1)), l2, l3, l4]) (st' := [.ref m]) dX7_pieceThird_0 (fun _ _ => rfl) ?_
  refine qv_getA dX7_pieceThird_1 rfl rfl (by decide) ?_
  refine qv_g (pc' := 5) (ls' := [some (.ref m), some (.int (iI x1)), l2, l3, l4]) (st' := [.int (iI x1), .ref (A 2)]) dX7_pieceThird_4 (fun _ _ => rfl) ?_
  obtain ⟨hr1, h⟩ := h
  refine qv_iald dX7_pieceThird_5 (by decide) hr1 (by decide) ?_
  refine qv_g (pc' := 7) (ls' := [some (.ref m), some (.int (iI x1)), some (.int (iI (v 2 x1))), l3, l4]) (st' := []) dX7_pieceThird_6 (fun _ _ => rfl) ?_
  refine qv_g (pc' := 8) (ls' := [some (.ref m), some (.int (iI x1)), some (.int (iI (v 2 x1))), l3, l4]) (st' := [.int (iI (v 2 x1))]) dX7_pieceThird_7 (fun _ _ => rfl) ?_
  obtain ⟨h1, h2⟩ := h
  refine qv_if (t := 37) dX7_pieceThird_8 (by decide) (d_eq (hvv _ _) (by decide)) (fun c => ?_) (fun c => ?_)
  · have h := h1 c
    exact h
  · have h := h2 c
    refine qv_g (pc' := 12) (ls' := [some (.ref m), some (.int (iI x1)), some (.int (iI (v 2 x1))), l3, l4]) (st' := [.int (iI (v 2 x1))]) dX7_pieceThird_11 (fun _ _ => rfl) ?_
    refine qv_ic dX7_pieceThird_12 ?_
    obtain ⟨h1, h2⟩ := h
    refine qv_icmp (t := 37) dX7_pieceThird_13 (by decide) (d_eq (hvv _ _) (by decide)) (fun c => ?_) (fun c => ?_)
    · have h := h1 c
      exact h
    · have h := h2 c
      refine qv_g (pc' := 17) (ls' := [some (.ref m), some (.int (iI x1)), some (.int (iI (v 2 x1))), l3, l4]) (st' := [.ref m]) dX7_pieceThird_16 (fun _ _ => rfl) ?_
      refine qv_g (pc' := 18) (ls' := [some (.ref m), some (.int (iI x1)), some (.int (iI (v 2 x1))), l3, l4]) (st' := [.ref m, .ref m]) dX7_pieceThird_17 (fun _ _ => rfl) ?_
      refine qv_g (pc' := 19) (ls' := [some (.ref m), some (.int (iI x1)), some (.int (iI (v 2 x1))), l3, l4]) (st' := [.int (iI x1), .ref m, .ref m]) dX7_pieceThird_18 (fun _ _ => rfl) ?_
      refine qv_g (pc' := 20) (ls' := [some (.ref m), some (.int (iI x1)), some (.int (iI (v 2 x1))), l3, l4]) (st' := [.int (iI (v 2 x1)), .int (iI x1), .ref m, .ref m]) dX7_pieceThird_19 (fun _ _ => rfl) ?_
      refine qv_ic dX7_pieceThird_20 ?_
      obtain ⟨h1, h2⟩ := h
      refine qv_icmp (t := 29) dX7_pieceThird_21 (by decide) (d_ne (hvv _ _) (by decide)) (fun c => ?_) (fun c => ?_)
      · have h := h1 c
        refine qv_ic dX7_pieceThird_29 ?_
        exact h
      · have h := h2 (Decidable.of_not_not c)
        refine qv_bi dX7_pieceThird_24 (by decide) ?_
        refine qv_goto (t := 30) dX7_pieceThird_26 (by decide) ?_
        exact h
theorem v136_30 {v : VS} {Q : Rs → VS → Prop} {l0 : Option Value} {l1 : Option Value} {l2 : Option Value} {l3 : Option Value} {l4 : Option Value} {u0 : Int} {u1 : Int}
    (h : RW g C S m A 103 0 [some (.ref m), some (.int (iI u1)), some (.int (iI u0)), none] [] v (VK g C S m A 136 33 [l0, l1, l2, l3, l4] [.ref m] Q)) (hu0 : (-2147483648 : Int) ≤ u0 ∧ u0 ≤ 2147483647 := by omega) (hu1 : (-2147483648 : Int) ≤ u1 ∧ u1 ≤ 2147483647 := by omega) :
    RW g C S m A 136 30 [l0, l1, l2, l3, l4] [.int (iI u0), .int (iI u1), .ref m, .ref m] v Q := by
  refine qv_R (fun hvv => ?_)
  exact qv_call dX7_pieceThird_30 (fun _ _ => ex_calV rfl (by decide)) rfl (Nat.le_of_ble_eq_true rfl) (Nat.le_of_ble_eq_true rfl) (Nat.le_of_ble_eq_true rfl) (fun _ hm => rcv0 rfl rfl (by decide) hm) rfl rfl rfl h
theorem v136_33 {v : VS} {Q : Rs → VS → Prop} {l0 : Option Value} {l1 : Option Value} {l2 : Option Value} {l3 : Option Value} {l4 : Option Value} {u0 : Int}
    (h : RW g C S m A 135 0 [some (.ref m), some (.int (iI u0))] [] v (VK g C S m A 136 36 [l0, l1, l2, l3, l4] [] Q)) (hu0 : (-2147483648 : Int) ≤ u0 ∧ u0 ≤ 2147483647 := by omega) :
    RW g C S m A 136 33 [l0, l1, l2, l3, l4] [.int (iI u0), .ref m] v Q := by
  refine qv_R (fun hvv => ?_)
  exact qv_call dX7_pieceThird_33 (fun _ _ => ex_calV rfl (by decide)) rfl (Nat.le_of_ble_eq_true rfl) (Nat.le_of_ble_eq_true rfl) (Nat.le_of_ble_eq_true rfl) (fun _ hm => rcv0 rfl rfl (by decide) hm) rfl rfl rfl h
theorem v136_36 {v : VS} {Q : Rs → VS → Prop} {l0 : Option Value} {l1 : Option Value} {l2 : Option Value} {l3 : Option Value} {l4 : Option Value}
    (h : Q (Sum.inl none) v)  :
    RW g C S m A 136 36 [l0, l1, l2, l3, l4] [] v Q := by
  refine qv_R (fun hvv => ?_)
  exact qv_vret dX7_pieceThird_36 rfl h
theorem v136_37 {v : VS} {Q : Rs → VS → Prop} {x1 : Int} {x2 : Int} {l3 : Option Value} {l4 : Option Value}
    (h : (¬ x2 = 0 → RW g C S m A 136 49 [some (.ref m), some (.int (iI x1)), some (.int (iI x2)), l3, l4] [.int (iI 6), .int (iI x1), .ref m] v Q) ∧ (x2 = 0 → RW g C S m A 136 49 [some (.ref m), some (.int (iI x1)), some (.int (iI x2)), l3, l4] [.int (iI 3), .int (iI x1), .ref m] v Q)) (hx1 : (-2147483648 : Int) ≤ x1 ∧ x1 ≤ 2147483647 := by omega) (hx2 : (-2147483648 : Int) ≤ x2 ∧ x2 ≤ 2147483647 := by omega) :
    RW g C S m A 136 37 [some (.ref m), some (.int (iI x1)), some (.int (iI x2)), l3, l4] [] v Q := by
  refine qv_R (fun hvv => ?_)
  refine qv_g (pc' := 38) (ls' := [some (.ref m), some (.int (iI x1)), some (.int (iI x2)), l3, l4]) (st' := [.ref m]) dX7_pieceThird_37 (fun _ _ => rfl) ?_
  refine qv_g (pc' := 39) (ls' := [some (.ref m), some (.int (iI x1)), some (.int (iI x2)), l3, l4]) (st' := [.int (iI x1), .ref m]) dX7_pieceThird_38 (fun _ _ => rfl) ?_
  refine qv_g (pc' := 40) (ls' := [some (.ref m), some (.int (iI x1)), some (.int (iI x2)), l3, l4]) (st' := [.int (iI x2), .int (iI x1), .ref m]) dX7_pieceThird_39 (fun _ _ => rfl) ?_
  obtain ⟨h1, h2⟩ := h
  refine qv_if (t := 47) dX7_pieceThird_40 (by decide) (d_ne hx2 (by decide)) (fun c => ?_) (fun c => ?_)
  · have h := h1 c
    refine qv_bi dX7_pieceThird_47 (by decide) ?_
    exact h
  · have h := h2 (Decidable.of_not_not c)
    refine qv_ic dX7_pieceThird_43 ?_
    refine qv_goto (t := 49) dX7_pieceThird_44 (by decide) ?_
    exact h
theorem v136_49 {v : VS} {Q : Rs → VS → Prop} {x1 : Int} {x2 : Int} {l3 : Option Value} {l4 : Option Value} {u0 : Int} {u1 : Int}
    (h : RW g C S m A 103 0 [some (.ref m), some (.int (iI u1)), some (.int (iI u0)), none] [] v (VK g C S m A 136 52 [some (.ref m), some (.int (iI x1)), some (.int (iI x2)), l3, l4] [] Q)) (hx1 : (-2147483648 : Int) ≤ x1 ∧ x1 ≤ 2147483647 := by omega) (hx2 : (-2147483648 : Int) ≤ x2 ∧ x2 ≤ 2147483647 := by omega) (hu0 : (-2147483648 : Int) ≤ u0 ∧ u0 ≤ 2147483647 := by omega) (hu1 : (-2147483648 : Int) ≤ u1 ∧ u1 ≤ 2147483647 := by omega) :
    RW g C S m A 136 49 [some (.ref m), some (.int (iI x1)), some (.int (iI x2)), l3, l4] [.int (iI u0), .int (iI u1), .ref m] v Q := by
  refine qv_R (fun hvv => ?_)
  exact qv_call dX7_pieceThird_49 (fun _ _ => ex_calV rfl (by decide)) rfl (Nat.le_of_ble_eq_true rfl) (Nat.le_of_ble_eq_true rfl) (Nat.le_of_ble_eq_true rfl) (fun _ hm => rcv0 rfl rfl (by decide) hm) rfl rfl rfl h
theorem v136_52 {v : VS} {Q : Rs → VS → Prop} {x1 : Int} {x2 : Int} {l3 : Option Value} {l4 : Option Value} {u0 : Int}
    (h : (¬ u0 = (-1) → RW g C S m A 132 0 [some (.ref m)] [] v (VK g C S m A 136 63 [some (.ref m), some (.int (iI x1)), some (.int (iI x2)), some (.int (iI u0)), l4] [] Q)) ∧ (u0 = (-1) → Q (Sum.inl none) v)) (hx1 : (-2147483648 : Int) ≤ x1 ∧ x1 ≤ 2147483647 := by omega) (hx2 : (-2147483648 : Int) ≤ x2 ∧ x2 ≤ 2147483647 := by omega) (hu0 : (-2147483648 : Int) ≤ u0 ∧ u0 ≤ 2147483647 := by omega) :
    RW g C S m A 136 52 [some (.ref m), some (.int (iI x1)), some (.int (iI x2)), l3, l4] [.int (iI u0)] v Q := by
  refine qv_R (fun hvv => ?_)
  refine qv_g (pc' := 53) (ls' := [some (.ref m), some (.int (iI x1)), some (.int (iI x2)), some (.int (iI u0)), l4]) (st' := []) dX7_pieceThird_52 (fun _ _ => rfl) ?_
  refine qv_g (pc' := 54) (ls' := [some (.ref m), some (.int (iI x1)), some (.int (iI x2)), some (.int (iI u0)), l4]) (st' := [.int (iI u0)]) dX7_pieceThird_53 (fun _ _ => rfl) ?_
  refine qv_ic dX7_pieceThird_54 ?_
  obtain ⟨h1, h2⟩ := h
  refine qv_icmp (t := 59) dX7_pieceThird_55 (by decide) (d_ne hu0 (by decide)) (fun c => ?_) (fun c => ?_)
  · have h := h1 c
    refine qv_g (pc' := 60) (ls' := [some (.ref m), some (.int (iI x1)), some (.int (iI x2)), some (.int (iI u0)), l4]) (st' := [.ref m]) dX7_pieceThird_59 (fun _ _ => rfl) ?_
    exact qv_call dX7_pieceThird_60 (fun _ _ => ex_calV rfl (by decide)) rfl (Nat.le_of_ble_eq_true rfl) (Nat.le_of_ble_eq_true rfl) (Nat.le_of_ble_eq_true rfl) (fun _ hm => rcv0 rfl rfl (by decide) hm) rfl rfl rfl h
  · have h := h2 (Decidable.of_not_not c)
    exact qv_vret dX7_pieceThird_58 rfl h
theorem v136_63 {v : VS} {Q : Rs → VS → Prop} {x1 : Int} {x2 : Int} {x3 : Int} {l4 : Option Value}
    (h : (¬ x2 = 2 → RW g C S m A 136 75 [some (.ref m), some (.int (iI x1)), some (.int (iI x2)), some (.int (iI x3)), l4] [] v Q) ∧ (x2 = 2 → RW g C S m A 112 0 [some (.ref m), some (.long (lI 540700233)), none, none, none] [] v (VK g C S m A 136 75 [some (.ref m), some (.int (iI x1)), some (.int (iI x2)), some (.int (iI x3)), l4] [] Q))) (hx1 : (-2147483648 : Int) ≤ x1 ∧ x1 ≤ 2147483647 := by omega) (hx2 : (-2147483648 : Int) ≤ x2 ∧ x2 ≤ 2147483647 := by omega) (hx3 : (-2147483648 : Int) ≤ x3 ∧ x3 ≤ 2147483647 := by omega) :
    RW g C S m A 136 63 [some (.ref m), some (.int (iI x1)), some (.int (iI x2)), some (.int (iI x3)), l4] [] v Q := by
  refine qv_R (fun hvv => ?_)
  refine qv_g (pc' := 64) (ls' := [some (.ref m), some (.int (iI x1)), some (.int (iI x2)), some (.int (iI x3)), l4]) (st' := [.int (iI x2)]) dX7_pieceThird_63 (fun _ _ => rfl) ?_
  refine qv_ic dX7_pieceThird_64 ?_
  obtain ⟨h1, h2⟩ := h
  refine qv_icmp (t := 75) dX7_pieceThird_65 (by decide) (d_ne hx2 (by decide)) (fun c => ?_) (fun c => ?_)
  · have h := h1 c
    exact h
  · have h := h2 (Decidable.of_not_not c)
    refine qv_g (pc' := 69) (ls' := [some (.ref m), some (.int (iI x1)), some (.int (iI x2)), some (.int (iI x3)), l4]) (st' := [.ref m]) dX7_pieceThird_68 (fun _ _ => rfl) ?_
    refine qv_ldc2 (z := 540700233) dX7_pieceThird_69 rfl ?_
    exact qv_call dX7_pieceThird_72 (fun _ _ => ex_calV rfl (by decide)) rfl (Nat.le_of_ble_eq_true rfl) (Nat.le_of_ble_eq_true rfl) (Nat.le_of_ble_eq_true rfl) (fun _ hm => rcv0 rfl rfl (by decide) hm) rfl rfl rfl h
theorem v136_75 {v : VS} {Q : Rs → VS → Prop} {x1 : Int} {x2 : Int} {x3 : Int} {l4 : Option Value}
    (h : RW g C S m A 113 0 [some (.ref m), some (.int (iI x3)), none] [] v (VK g C S m A 136 80 [some (.ref m), some (.int (iI x1)), some (.int (iI x2)), some (.int (iI x3)), l4] [] Q)) (hx1 : (-2147483648 : Int) ≤ x1 ∧ x1 ≤ 2147483647 := by omega) (hx2 : (-2147483648 : Int) ≤ x2 ∧ x2 ≤ 2147483647 := by omega) (hx3 : (-2147483648 : Int) ≤ x3 ∧ x3 ≤ 2147483647 := by omega) :
    RW g C S m A 136 75 [some (.ref m), some (.int (iI x1)), some (.int (iI x2)), some (.int (iI x3)), l4] [] v Q := by
  refine qv_R (fun hvv => ?_)
  refine qv_g (pc' := 76) (ls' := [some (.ref m), some (.int (iI x1)), some (.int (iI x2)), some (.int (iI x3)), l4]) (st' := [.ref m]) dX7_pieceThird_75 (fun _ _ => rfl) ?_
  refine qv_g (pc' := 77) (ls' := [some (.ref m), some (.int (iI x1)), some (.int (iI x2)), some (.int (iI x3)), l4]) (st' := [.int (iI x3), .ref m]) dX7_pieceThird_76 (fun _ _ => rfl) ?_
  exact qv_call dX7_pieceThird_77 (fun _ _ => ex_calV rfl (by decide)) rfl (Nat.le_of_ble_eq_true rfl) (Nat.le_of_ble_eq_true rfl) (Nat.le_of_ble_eq_true rfl) (fun _ hm => rcv0 rfl rfl (by decide) hm) rfl rfl rfl h
theorem v136_80 {v : VS} {Q : Rs → VS → Prop} {x1 : Int} {x2 : Int} {l3 : Option Value} {l4 : Option Value}
    (h : RW g C S m A 103 0 [some (.ref m), some (.int (iI x1)), some (.int (iI 5)), none] [] v (VK g C S m A 136 86 [some (.ref m), some (.int (iI x1)), some (.int (iI x2)), l3, l4] [] Q)) (hx1 : (-2147483648 : Int) ≤ x1 ∧ x1 ≤ 2147483647 := by omega) (hx2 : (-2147483648 : Int) ≤ x2 ∧ x2 ≤ 2147483647 := by omega) :
    RW g C S m A 136 80 [some (.ref m), some (.int (iI x1)), some (.int (iI x2)), l3, l4] [] v Q := by
  refine qv_R (fun hvv => ?_)
  refine qv_g (pc' := 81) (ls' := [some (.ref m), some (.int (iI x1)), some (.int (iI x2)), l3, l4]) (st' := [.ref m]) dX7_pieceThird_80 (fun _ _ => rfl) ?_
  refine qv_g (pc' := 82) (ls' := [some (.ref m), some (.int (iI x1)), some (.int (iI x2)), l3, l4]) (st' := [.int (iI x1), .ref m]) dX7_pieceThird_81 (fun _ _ => rfl) ?_
  refine qv_ic dX7_pieceThird_82 ?_
  exact qv_call dX7_pieceThird_83 (fun _ _ => ex_calV rfl (by decide)) rfl (Nat.le_of_ble_eq_true rfl) (Nat.le_of_ble_eq_true rfl) (Nat.le_of_ble_eq_true rfl) (fun _ hm => rcv0 rfl rfl (by decide) hm) rfl rfl rfl h
theorem v136_86 {v : VS} {Q : Rs → VS → Prop} {l1 : Option Value} {x2 : Int} {l3 : Option Value} {l4 : Option Value} {u0 : Int}
    (h : (u0 = (-1) → RW g C S m A 136 117 [some (.ref m), l1, some (.int (iI x2)), (clr l3), some (.int (iI u0))] [] v Q) ∧ (¬ u0 = (-1) → (¬ x2 = 0 → RW g C S m A 136 108 [some (.ref m), l1, some (.int (iI x2)), (clr l3), some (.int (iI u0))] [.long (lI 35383826980908), .ref m] v Q) ∧ (x2 = 0 → RW g C S m A 136 108 [some (.ref m), l1, some (.int (iI x2)), (clr l3), some (.int (iI u0))] [.long (lI 8236), .ref m] v Q))) (hx2 : (-2147483648 : Int) ≤ x2 ∧ x2 ≤ 2147483647 := by omega) (hu0 : (-2147483648 : Int) ≤ u0 ∧ u0 ≤ 2147483647 := by omega) :
    RW g C S m A 136 86 [some (.ref m), l1, some (.int (iI x2)), l3, l4] [.int (iI u0)] v Q := by
  refine qv_R (fun hvv => ?_)
  refine qv_g (pc' := 88) (ls' := [some (.ref m), l1, some (.int (iI x2)), (clr l3), some (.int (iI u0))]) (st' := []) dX7_pieceThird_86 (fun _ _ => rfl) ?_
  refine qv_g (pc' := 90) (ls' := [some (.ref m), l1, some (.int (iI x2)), (clr l3), some (.int (iI u0))]) (st' := [.int (iI u0)]) dX7_pieceThird_88 (fun _ _ => rfl) ?_
  refine qv_ic dX7_pieceThird_90 ?_
  obtain ⟨h1, h2⟩ := h
  refine qv_icmp (t := 117) dX7_pieceThird_91 (by decide) (d_eq hu0 (by decide)) (fun c => ?_) (fun c => ?_)
  · have h := h1 c
    exact h
  · have h := h2 c
    refine qv_g (pc' := 95) (ls' := [some (.ref m), l1, some (.int (iI x2)), (clr l3), some (.int (iI u0))]) (st' := [.ref m]) dX7_pieceThird_94 (fun _ _ => rfl) ?_
    refine qv_g (pc' := 96) (ls' := [some (.ref m), l1, some (.int (iI x2)), (clr l3), some (.int (iI u0))]) (st' := [.int (iI x2), .ref m]) dX7_pieceThird_95 (fun _ _ => rfl) ?_
    obtain ⟨h1, h2⟩ := h
    refine qv_if (t := 105) dX7_pieceThird_96 (by decide) (d_ne hx2 (by decide)) (fun c => ?_) (fun c => ?_)
    · have h := h1 c
      refine qv_ldc2 (z := 35383826980908) dX7_pieceThird_105 rfl ?_
      exact h
    · have h := h2 (Decidable.of_not_not c)
      refine qv_ldc2 (z := 8236) dX7_pieceThird_99 rfl ?_
      refine qv_goto (t := 108) dX7_pieceThird_102 (by decide) ?_
      exact h
theorem v136_108 {v : VS} {Q : Rs → VS → Prop} {l1 : Option Value} {l2 : Option Value} {l3 : Option Value} {x4 : Int} {z0 : Int}
    (h : RW g C S m A 112 0 [some (.ref m), some (.long (lI z0)), none, none, none] [] v (VK g C S m A 136 111 [some (.ref m), l1, l2, l3, some (.int (iI x4))] [] Q)) (hx4 : (-2147483648 : Int) ≤ x4 ∧ x4 ≤ 2147483647 := by omega) (hz0 : 0 ≤ z0 ∧ z0 < 9223372036854775808 := by omega) :
    RW g C S m A 136 108 [some (.ref m), l1, l2, l3, some (.int (iI x4))] [.long (lI z0), .ref m] v Q := by
  refine qv_R (fun hvv => ?_)
  exact qv_call dX7_pieceThird_108 (fun _ _ => ex_calV rfl (by decide)) rfl (Nat.le_of_ble_eq_true rfl) (Nat.le_of_ble_eq_true rfl) (Nat.le_of_ble_eq_true rfl) (fun _ hm => rcv0 rfl rfl (by decide) hm) rfl rfl rfl h
theorem v136_111 {v : VS} {Q : Rs → VS → Prop} {l1 : Option Value} {l2 : Option Value} {l3 : Option Value} {x4 : Int}
    (h : RW g C S m A 113 0 [some (.ref m), some (.int (iI x4)), none] [] v (VK g C S m A 136 117 [some (.ref m), l1, l2, l3, some (.int (iI x4))] [] Q)) (hx4 : (-2147483648 : Int) ≤ x4 ∧ x4 ≤ 2147483647 := by omega) :
    RW g C S m A 136 111 [some (.ref m), l1, l2, l3, some (.int (iI x4))] [] v Q := by
  refine qv_R (fun hvv => ?_)
  refine qv_g (pc' := 112) (ls' := [some (.ref m), l1, l2, l3, some (.int (iI x4))]) (st' := [.ref m]) dX7_pieceThird_111 (fun _ _ => rfl) ?_
  refine qv_g (pc' := 114) (ls' := [some (.ref m), l1, l2, l3, some (.int (iI x4))]) (st' := [.int (iI x4), .ref m]) dX7_pieceThird_112 (fun _ _ => rfl) ?_
  exact qv_call dX7_pieceThird_114 (fun _ _ => ex_calV rfl (by decide)) rfl (Nat.le_of_ble_eq_true rfl) (Nat.le_of_ble_eq_true rfl) (Nat.le_of_ble_eq_true rfl) (fun _ hm => rcv0 rfl rfl (by decide) hm) rfl rfl rfl h
theorem v136_117 {v : VS} {Q : Rs → VS → Prop} {l0 : Option Value} {l1 : Option Value} {l2 : Option Value} {l3 : Option Value} {l4 : Option Value}
    (h : Q (Sum.inl none) v)  :
    RW g C S m A 136 117 [l0, l1, l2, l3, l4] [] v Q := by
  refine qv_R (fun hvv => ?_)
  exact qv_vret dX7_pieceThird_117 rfl h
theorem v137_0 {v : VS} {Q : Rs → VS → Prop} {x1 : Int}
    (h : (x1 ≤ 9 → RW g C S m A 137 17 [some (.ref m), some (.int (iI x1))] [] v Q) ∧ (9 < x1 → ((0 : Int) ≤ x1 ∧ (x1 : Int) ≤ 2147483647) ∧ ((-2147483648 : Int) ≤ 48 + (x1 / 10) ∧ 48 + (x1 / 10) ≤ 2147483647) ∧ RW g C S m A 111 0 [some (.ref m), some (.int (iI (48 + (x1 / 10))))] [] v (VK g C S m A 137 17 [some (.ref m), some (.int (iI x1))] [] Q))) (hx1 : (-2147483648 : Int) ≤ x1 ∧ x1 ≤ 2147483647 := by omega) :
    RW g C S m A 137 0 [some (.ref m), some (.int (iI x1))] [] v Q := by
  refine qv_R (fun hvv => ?_)
  refine qv_g (pc' := 1) (ls' := [some (.ref m), some (.int (iI x1))]) (st' := [.int (iI x1)]) dX7_putNumber_0 (fun _ _ => rfl) ?_
  refine qv_bi dX7_putNumber_1 (by decide) ?_
  obtain ⟨h1, h2⟩ := h
  refine qv_icmp (t := 17) dX7_putNumber_3 (by decide) (d_le hx1 (by decide)) (fun c => ?_) (fun c => ?_)
  · have h := h1 c
    exact h
  · have h := h2 (Int.not_le.mp c)
    refine qv_g (pc' := 7) (ls' := [some (.ref m), some (.int (iI x1))]) (st' := [.ref m]) dX7_putNumber_6 (fun _ _ => rfl) ?_
    refine qv_bi dX7_putNumber_7 (by decide) ?_
    refine qv_g (pc' := 10) (ls' := [some (.ref m), some (.int (iI x1))]) (st' := [.int (iI x1), .int (iI 48), .ref m]) dX7_putNumber_9 (fun _ _ => rfl) ?_
    refine qv_bi dX7_putNumber_10 (by decide) ?_
    obtain ⟨hr1, h⟩ := h
    refine qv_div dX7_putNumber_12 hr1 (by decide) ?_
    obtain ⟨hr2, h⟩ := h
    refine qv_add dX7_putNumber_13 ?_
    exact qv_call dX7_putNumber_14 (fun _ _ => ex_calV rfl (by decide)) rfl (Nat.le_of_ble_eq_true rfl) (Nat.le_of_ble_eq_true rfl) (Nat.le_of_ble_eq_true rfl) (fun _ hm => rcv0 rfl rfl (by decide) hm) rfl rfl rfl h
theorem v137_17 {v : VS} {Q : Rs → VS → Prop} {x1 : Int}
    (h : ((0 : Int) ≤ x1 ∧ (x1 : Int) ≤ 2147483647) ∧ ((-2147483648 : Int) ≤ 48 + (x1 % 10) ∧ 48 + (x1 % 10) ≤ 2147483647) ∧ RW g C S m A 111 0 [some (.ref m), some (.int (iI (48 + (x1 % 10))))] [] v (VK g C S m A 137 28 [some (.ref m), some (.int (iI x1))] [] Q)) (hx1 : (-2147483648 : Int) ≤ x1 ∧ x1 ≤ 2147483647 := by omega) :
    RW g C S m A 137 17 [some (.ref m), some (.int (iI x1))] [] v Q := by
  refine qv_R (fun hvv => ?_)
  refine qv_g (pc' := 18) (ls' := [some (.ref m), some (.int (iI x1))]) (st' := [.ref m]) dX7_putNumber_17 (fun _ _ => rfl) ?_
  refine qv_bi dX7_putNumber_18 (by decide) ?_
  refine qv_g (pc' := 21) (ls' := [some (.ref m), some (.int (iI x1))]) (st' := [.int (iI x1), .int (iI 48), .ref m]) dX7_putNumber_20 (fun _ _ => rfl) ?_
  refine qv_bi dX7_putNumber_21 (by decide) ?_
  obtain ⟨hr1, h⟩ := h
  refine qv_rem dX7_putNumber_23 hr1 (by decide) ?_
  obtain ⟨hr2, h⟩ := h
  refine qv_add dX7_putNumber_24 ?_
  exact qv_call dX7_putNumber_25 (fun _ _ => ex_calV rfl (by decide)) rfl (Nat.le_of_ble_eq_true rfl) (Nat.le_of_ble_eq_true rfl) (Nat.le_of_ble_eq_true rfl) (fun _ hm => rcv0 rfl rfl (by decide) hm) rfl rfl rfl h
theorem v137_28 {v : VS} {Q : Rs → VS → Prop} {l0 : Option Value} {l1 : Option Value}
    (h : Q (Sum.inl none) v)  :
    RW g C S m A 137 28 [l0, l1] [] v Q := by
  refine qv_R (fun hvv => ?_)
  exact qv_vret dX7_putNumber_28 rfl h
theorem v138_0 {v : VS} {Q : Rs → VS → Prop} {x1 : Int} {l2 : Option Value} {l3 : Option Value}
    (h : ((0 : Int) ≤ x1 ∧ (x1 : Int) < 24) ∧ (∀ w2, w2 = uv v 21 0 0 → (¬ w2 12 0 = 2 → RW g C S m A 138 28 [some (.ref m), some (.int (iI x1)), some (.int (iI (v 26 x1))), l3] [.int (iI 91), .ref m] w2 Q) ∧ (w2 12 0 = 2 → RW g C S m A 138 28 [some (.ref m), some (.int (iI x1)), some (.int (iI (v 26 x1))), l3] [.int (iI 40), .ref m] w2 Q))) (hx1 : (-2147483648 : Int) ≤ x1 ∧ x1 ≤ 2147483647 := by omega) :
    RW g C S m A 138 0 [some (.ref m), some (.int (iI x1)), l2, l3] [] v Q := by
  refine qv_R (fun hvv => ?_)
  refine qv_g (pc' := 1) (ls' := [some (.ref m), some (.int (iI x1)), l2, l3]) (st' := [.ref m]) dX7_makeText_0 (fun _ _ => rfl) ?_
  refine qv_getA dX7_makeText_1 rfl rfl (by decide) ?_
  refine qv_g (pc' := 5) (ls' := [some (.ref m), some (.int (iI x1)), l2, l3]) (st' := [.int (iI x1), .ref (A 26)]) dX7_makeText_4 (fun _ _ => rfl) ?_
  obtain ⟨hr1, h⟩ := h
  refine qv_iald dX7_makeText_5 (by decide) hr1 (by decide) ?_
  refine qv_g (pc' := 7) (ls' := [some (.ref m), some (.int (iI x1)), some (.int (iI (v 26 x1))), l3]) (st' := []) dX7_makeText_6 (fun _ _ => rfl) ?_
  refine qv_g (pc' := 8) (ls' := [some (.ref m), some (.int (iI x1)), some (.int (iI (v 26 x1))), l3]) (st' := [.ref m]) dX7_makeText_7 (fun _ _ => rfl) ?_
  refine qv_ic dX7_makeText_8 ?_
  refine qv_putI dX7_makeText_9 rfl rfl (Or.inl rfl) rfl (Or.inl rfl) (by decide) ?_
  generalize ew2 : uv v 21 0 0 = w2
  replace h := h _ ew2.symm
  refine qv_R (fun hvw2 => ?_)
  refine qv_g (pc' := 13) (ls' := [some (.ref m), some (.int (iI x1)), some (.int (iI (v 26 x1))), l3]) (st' := [.ref m]) dX7_makeText_12 (fun _ _ => rfl) ?_
  refine qv_g (pc' := 14) (ls' := [some (.ref m), some (.int (iI x1)), some (.int (iI (v 26 x1))), l3]) (st' := [.ref m, .ref m]) dX7_makeText_13 (fun _ _ => rfl) ?_
  refine qv_getI dX7_makeText_14 rfl rfl rfl ?_
  refine qv_ic dX7_makeText_17 ?_
  obtain ⟨h1, h2⟩ := h
  refine qv_icmp (t := 26) dX7_makeText_18 (by decide) (d_ne (hvw2 _ _) (by decide)) (fun c => ?_) (fun c => ?_)
  · have h := h1 c
    refine qv_bi dX7_makeText_26 (by decide) ?_
    exact h
  · have h := h2 (Decidable.of_not_not c)
    refine qv_bi dX7_makeText_21 (by decide) ?_
    refine qv_goto (t := 28) dX7_makeText_23 (by decide) ?_
    exact h
theorem v138_28 {v : VS} {Q : Rs → VS → Prop} {x1 : Int} {x2 : Int} {l3 : Option Value} {u0 : Int}
    (h : RW g C S m A 111 0 [some (.ref m), some (.int (iI u0))] [] v (VK g C S m A 138 31 [some (.ref m), some (.int (iI x1)), some (.int (iI x2)), l3] [] Q)) (hx1 : (-2147483648 : Int) ≤ x1 ∧ x1 ≤ 2147483647 := by omega) (hx2 : (-2147483648 : Int) ≤ x2 ∧ x2 ≤ 2147483647 := by omega) (hu0 : (-2147483648 : Int) ≤ u0 ∧ u0 ≤ 2147483647 := by omega) :
    RW g C S m A 138 28 [some (.ref m), some (.int (iI x1)), some (.int (iI x2)), l3] [.int (iI u0), .ref m] v Q := by
  refine qv_R (fun hvv => ?_)
  exact qv_call dX7_makeText_28 (fun _ _ => ex_calV rfl (by decide)) rfl (Nat.le_of_ble_eq_true rfl) (Nat.le_of_ble_eq_true rfl) (Nat.le_of_ble_eq_true rfl) (fun _ hm => rcv0 rfl rfl (by decide) hm) rfl rfl rfl h
theorem v138_31 {v : VS} {Q : Rs → VS → Prop} {x1 : Int} {x2 : Int} {l3 : Option Value}
    (h : (¬ v 12 0 = 0 → RW g C S m A 138 45 [some (.ref m), some (.int (iI x1)), some (.int (iI x2)), l3] [] v Q) ∧ (v 12 0 = 0 → ((-2147483648 : Int) ≤ x1 + 1 ∧ x1 + 1 ≤ 2147483647) ∧ RW g C S m A 137 0 [some (.ref m), some (.int (iI (x1 + 1)))] [] v (VK g C S m A 138 45 [some (.ref m), some (.int (iI x1)), some (.int (iI x2)), l3] [] Q))) (hx1 : (-2147483648 : Int) ≤ x1 ∧ x1 ≤ 2147483647 := by omega) (hx2 : (-2147483648 : Int) ≤ x2 ∧ x2 ≤ 2147483647 := by omega) :
    RW g C S m A 138 31 [some (.ref m), some (.int (iI x1)), some (.int (iI x2)), l3] [] v Q := by
  refine qv_R (fun hvv => ?_)
  refine qv_g (pc' := 32) (ls' := [some (.ref m), some (.int (iI x1)), some (.int (iI x2)), l3]) (st' := [.ref m]) dX7_makeText_31 (fun _ _ => rfl) ?_
  refine qv_getI dX7_makeText_32 rfl rfl rfl ?_
  obtain ⟨h1, h2⟩ := h
  refine qv_if (t := 45) dX7_makeText_35 (by decide) (d_ne (hvv _ _) (by decide)) (fun c => ?_) (fun c => ?_)
  · have h := h1 c
    exact h
  · have h := h2 (Decidable.of_not_not c)
    refine qv_g (pc' := 39) (ls' := [some (.ref m), some (.int (iI x1)), some (.int (iI x2)), l3]) (st' := [.ref m]) dX7_makeText_38 (fun _ _ => rfl) ?_
    refine qv_g (pc' := 40) (ls' := [some (.ref m), some (.int (iI x1)), some (.int (iI x2)), l3]) (st' := [.int (iI x1), .ref m]) dX7_makeText_39 (fun _ _ => rfl) ?_
    refine qv_ic dX7_makeText_40 ?_
    obtain ⟨hr1, h⟩ := h
    refine qv_add dX7_makeText_41 ?_
    exact qv_call dX7_makeText_42 (fun _ _ => ex_calV rfl (by decide)) rfl (Nat.le_of_ble_eq_true rfl) (Nat.le_of_ble_eq_true rfl) (Nat.le_of_ble_eq_true rfl) (fun _ hm => rcv0 rfl rfl (by decide) hm) rfl rfl rfl h
theorem v138_45 {v : VS} {Q : Rs → VS → Prop} {x1 : Int} {x2 : Int} {l3 : Option Value}
    (h : RW g C S m A 138 47 [some (.ref m), some (.int (iI x1)), some (.int (iI x2)), some (.int (iI 0))] [] v Q) (hx1 : (-2147483648 : Int) ≤ x1 ∧ x1 ≤ 2147483647 := by omega) (hx2 : (-2147483648 : Int) ≤ x2 ∧ x2 ≤ 2147483647 := by omega) :
    RW g C S m A 138 45 [some (.ref m), some (.int (iI x1)), some (.int (iI x2)), l3] [] v Q := by
  refine qv_R (fun hvv => ?_)
  refine qv_ic dX7_makeText_45 ?_
  refine qv_g (pc' := 47) (ls' := [some (.ref m), some (.int (iI x1)), some (.int (iI x2)), some (.int (iI 0))]) (st' := []) dX7_makeText_46 (fun _ _ => rfl) ?_
  exact h
theorem v138_47 {v : VS} {Q : Rs → VS → Prop} {x1 : Int} {x2 : Int} {x3 : Int}
    (h : ((0 : Int) ≤ x1 ∧ (x1 : Int) < 24) ∧ (v 28 x1 ≤ x3 → ((0 : Int) ≤ x1 ∧ (x1 : Int) < 24) ∧ (v 27 x1 ≤ 0 → RW g C S m A 138 101 [some (.ref m), some (.int (iI x1)), some (.int (iI x2)), some (.int (iI x3))] [] v Q) ∧ (0 < v 27 x1 → ((0 : Int) ≤ x1 ∧ (x1 : Int) < 24) ∧ ((-2147483648 : Int) ≤ 96 + (v 27 x1) ∧ 96 + (v 27 x1) ≤ 2147483647) ∧ RW g C S m A 111 0 [some (.ref m), some (.int (iI (96 + (v 27 x1))))] [] v (VK g C S m A 138 101 [some (.ref m), some (.int (iI x1)), some (.int (iI x2)), some (.int (iI x3))] [] Q))) ∧ (x3 < v 28 x1 → ((-2147483648 : Int) ≤ 400 * x1 ∧ 400 * x1 ≤ 2147483647) ∧ ((-2147483648 : Int) ≤ (400 * x1) + x3 ∧ (400 * x1) + x3 ≤ 2147483647) ∧ ((0 : Int) ≤ (400 * x1) + x3 ∧ ((400 * x1) + x3 : Int) < 9600) ∧ RW g C S m A 111 0 [some (.ref m), some (.int (iI (v 29 ((400 * x1) + x3))))] [] v (VK g C S m A 138 73 [some (.ref m), some (.int (iI x1)), some (.int (iI x2)), some (.int (iI x3))] [] Q))) (hx1 : (-2147483648 : Int) ≤ x1 ∧ x1 ≤ 2147483647 := by omega) (hx2 : (-2147483648 : Int) ≤ x2 ∧ x2 ≤ 2147483647 := by omega) (hx3 : (-2147483648 : Int) ≤ x3 ∧ x3 ≤ 2147483647 := by omega) :
    RW g C S m A 138 47 [some (.ref m), some (.int (iI x1)), some (.int (iI x2)), some (.int (iI x3))] [] v Q := by
  refine qv_R (fun hvv => ?_)
  refine qv_g (pc' := 48) (ls' := [some (.ref m), some (.int (iI x1)), some (.int (iI x2)), some (.int (iI x3))]) (st' := [.int (iI x3)]) dX7_makeText_47 (fun _ _ => rfl) ?_
  refine qv_g (pc' := 49) (ls' := [some (.ref m), some (.int (iI x1)), some (.int (iI x2)), some (.int (iI x3))]) (st' := [.ref m, .int (iI x3)]) dX7_makeText_48 (fun _ _ => rfl) ?_
  refine qv_getA dX7_makeText_49 rfl rfl (by decide) ?_
  refine qv_g (pc' := 53) (ls' := [some (.ref m), some (.int (iI x1)), some (.int (iI x2)), some (.int (iI x3))]) (st' := [.int (iI x1), .ref (A 28), .int (iI x3)]) dX7_makeText_52 (fun _ _ => rfl) ?_
  obtain ⟨hr1, h⟩ := h
  refine qv_iald dX7_makeText_53 (by decide) hr1 (by decide) ?_
  obtain ⟨h1, h2⟩ := h
  refine qv_icmp (t := 79) dX7_makeText_54 (by decide) (d_ge hx3 (hvv _ _)) (fun c => ?_) (fun c => ?_)
  · have h := h1 c
    refine qv_g (pc' := 80) (ls' := [some (.ref m), some (.int (iI x1)), some (.int (iI x2)), some (.int (iI x3))]) (st' := [.ref m]) dX7_makeText_79 (fun _ _ => rfl) ?_
    refine qv_getA dX7_makeText_80 rfl rfl (by decide) ?_
    refine qv_g (pc' := 84) (ls' := [some (.ref m), some (.int (iI x1)), some (.int (iI x2)), some (.int (iI x3))]) (st' := [.int (iI x1), .ref (A 27)]) dX7_makeText_83 (fun _ _ => rfl) ?_
    obtain ⟨hr2, h⟩ := h
    refine qv_iald dX7_makeText_84 (by decide) hr2 (by decide) ?_
    obtain ⟨h1, h2⟩ := h
    refine qv_if (t := 101) dX7_makeText_85 (by decide) (d_le (hvv _ _) (by decide)) (fun c => ?_) (fun c => ?_)
    · have h := h1 c
      exact h
    · have h := h2 (Int.not_le.mp c)
      refine qv_g (pc' := 89) (ls' := [some (.ref m), some (.int (iI x1)), some (.int (iI x2)), some (.int (iI x3))]) (st' := [.ref m]) dX7_makeText_88 (fun _ _ => rfl) ?_
      refine qv_bi dX7_makeText_89 (by decide) ?_
      refine qv_g (pc' := 92) (ls' := [some (.ref m), some (.int (iI x1)), some (.int (iI x2)), some (.int (iI x3))]) (st' := [.ref m, .int (iI 96), .ref m]) dX7_makeText_91 (fun _ _ => rfl) ?_
      refine qv_getA dX7_makeText_92 rfl rfl (by decide) ?_
      refine qv_g (pc' := 96) (ls' := [some (.ref m), some (.int (iI x1)), some (.int (iI x2)), some (.int (iI x3))]) (st' := [.int (iI x1), .ref (A 27), .int (iI 96), .ref m]) dX7_makeText_95 (fun _ _ => rfl) ?_
      obtain ⟨hr3, h⟩ := h
      refine qv_iald dX7_makeText_96 (by decide) hr3 (by decide) ?_
      obtain ⟨hr4, h⟩ := h
      refine qv_add dX7_makeText_97 ?_
      exact qv_call dX7_makeText_98 (fun _ _ => ex_calV rfl (by decide)) rfl (Nat.le_of_ble_eq_true rfl) (Nat.le_of_ble_eq_true rfl) (Nat.le_of_ble_eq_true rfl) (fun _ hm => rcv0 rfl rfl (by decide) hm) rfl rfl rfl h
  · have h := h2 (Int.not_le.mp c)
    refine qv_g (pc' := 58) (ls' := [some (.ref m), some (.int (iI x1)), some (.int (iI x2)), some (.int (iI x3))]) (st' := [.ref m]) dX7_makeText_57 (fun _ _ => rfl) ?_
    refine qv_g (pc' := 59) (ls' := [some (.ref m), some (.int (iI x1)), some (.int (iI x2)), some (.int (iI x3))]) (st' := [.ref m, .ref m]) dX7_makeText_58 (fun _ _ => rfl) ?_
    refine qv_getA dX7_makeText_59 rfl rfl (by decide) ?_
    refine qv_si dX7_makeText_62 (by decide) ?_
    refine qv_g (pc' := 66) (ls' := [some (.ref m), some (.int (iI x1)), some (.int (iI x2)), some (.int (iI x3))]) (st' := [.int (iI x1), .int (iI 400), .ref (A 29), .ref m]) dX7_makeText_65 (fun _ _ => rfl) ?_
    obtain ⟨hr5, h⟩ := h
    refine qv_mul dX7_makeText_66 ?_
    refine qv_g (pc' := 68) (ls' := [some (.ref m), some (.int (iI x1)), some (.int (iI x2)), some (.int (iI x3))]) (st' := [.int (iI x3), .int (iI (400 * x1)), .ref (A 29), .ref m]) dX7_makeText_67 (fun _ _ => rfl) ?_
    obtain ⟨hr6, h⟩ := h
    refine qv_add dX7_makeText_68 ?_
    obtain ⟨hr7, h⟩ := h
    refine qv_iald dX7_makeText_69 (by decide) hr7 (by decide) ?_
    exact qv_call dX7_makeText_70 (fun _ _ => ex_calV rfl (by decide)) rfl (Nat.le_of_ble_eq_true rfl) (Nat.le_of_ble_eq_true rfl) (Nat.le_of_ble_eq_true rfl) (fun _ hm => rcv0 rfl rfl (by decide) hm) rfl rfl rfl h
theorem v138_73 {v : VS} {Q : Rs → VS → Prop} {x1 : Int} {x2 : Int} {x3 : Int}
    (h : ((-2147483648 : Int) ≤ x3 + 1 ∧ x3 + 1 ≤ 2147483647) ∧ RW g C S m A 138 47 [some (.ref m), some (.int (iI x1)), some (.int (iI x2)), some (.int (iI (x3 + 1)))] [] v Q) (hx1 : (-2147483648 : Int) ≤ x1 ∧ x1 ≤ 2147483647 := by omega) (hx2 : (-2147483648 : Int) ≤ x2 ∧ x2 ≤ 2147483647 := by omega) (hx3 : (-2147483648 : Int) ≤ x3 ∧ x3 ≤ 2147483647 := by omega) :
    RW g C S m A 138 73 [some (.ref m), some (.int (iI x1)), some (.int (iI x2)), some (.int (iI x3))] [] v Q := by
  refine qv_R (fun hvv => ?_)
  obtain ⟨hr1, h⟩ := h
  refine qv_inc (ls' := [some (.ref m), some (.int (iI x1)), some (.int (iI x2)), some (.int (iI (x3 + 1)))]) dX7_makeText_73 rfl (Nat.le_of_ble_eq_true rfl) rfl ?_
  refine qv_goto (t := 47) dX7_makeText_76 (by decide) ?_
  exact h
theorem v138_101 {v : VS} {Q : Rs → VS → Prop} {x1 : Int} {x2 : Int} {l3 : Option Value}
    (h : (¬ v 12 0 = 2 → RW g C S m A 138 117 [some (.ref m), some (.int (iI x1)), some (.int (iI x2)), l3] [.int (iI 93), .ref m] v Q) ∧ (v 12 0 = 2 → RW g C S m A 138 117 [some (.ref m), some (.int (iI x1)), some (.int (iI x2)), l3] [.int (iI 41), .ref m] v Q)) (hx1 : (-2147483648 : Int) ≤ x1 ∧ x1 ≤ 2147483647 := by omega) (hx2 : (-2147483648 : Int) ≤ x2 ∧ x2 ≤ 2147483647 := by omega) :
    RW g C S m A 138 101 [some (.ref m), some (.int (iI x1)), some (.int (iI x2)), l3] [] v Q := by
  refine qv_R (fun hvv => ?_)
  refine qv_g (pc' := 102) (ls' := [some (.ref m), some (.int (iI x1)), some (.int (iI x2)), l3]) (st' := [.ref m]) dX7_makeText_101 (fun _ _ => rfl) ?_
  refine qv_g (pc' := 103) (ls' := [some (.ref m), some (.int (iI x1)), some (.int (iI x2)), l3]) (st' := [.ref m, .ref m]) dX7_makeText_102 (fun _ _ => rfl) ?_
  refine qv_getI dX7_makeText_103 rfl rfl rfl ?_
  refine qv_ic dX7_makeText_106 ?_
  obtain ⟨h1, h2⟩ := h
  refine qv_icmp (t := 115) dX7_makeText_107 (by decide) (d_ne (hvv _ _) (by decide)) (fun c => ?_) (fun c => ?_)
  · have h := h1 c
    refine qv_bi dX7_makeText_115 (by decide) ?_
    exact h
  · have h := h2 (Decidable.of_not_not c)
    refine qv_bi dX7_makeText_110 (by decide) ?_
    refine qv_goto (t := 117) dX7_makeText_112 (by decide) ?_
    exact h
theorem v138_117 {v : VS} {Q : Rs → VS → Prop} {x1 : Int} {x2 : Int} {l3 : Option Value} {u0 : Int}
    (h : RW g C S m A 111 0 [some (.ref m), some (.int (iI u0))] [] v (VK g C S m A 138 120 [some (.ref m), some (.int (iI x1)), some (.int (iI x2)), l3] [] Q)) (hx1 : (-2147483648 : Int) ≤ x1 ∧ x1 ≤ 2147483647 := by omega) (hx2 : (-2147483648 : Int) ≤ x2 ∧ x2 ≤ 2147483647 := by omega) (hu0 : (-2147483648 : Int) ≤ u0 ∧ u0 ≤ 2147483647 := by omega) :
    RW g C S m A 138 117 [some (.ref m), some (.int (iI x1)), some (.int (iI x2)), l3] [.int (iI u0), .ref m] v Q := by
  refine qv_R (fun hvv => ?_)
  exact qv_call dX7_makeText_117 (fun _ _ => ex_calV rfl (by decide)) rfl (Nat.le_of_ble_eq_true rfl) (Nat.le_of_ble_eq_true rfl) (Nat.le_of_ble_eq_true rfl) (fun _ hm => rcv0 rfl rfl (by decide) hm) rfl rfl rfl h
theorem v138_120 {v : VS} {Q : Rs → VS → Prop} {x1 : Int} {x2 : Int} {l3 : Option Value}
    (h : (∀ w1, w1 = uv v 37 0 (v 21 0) → RW g C S m A 134 0 [some (.ref m), some (.int (iI x2)), none, none] [] w1 (VK g C S m A 138 133 [some (.ref m), some (.int (iI x1)), some (.int (iI x2)), l3] [] Q))) (hx1 : (-2147483648 : Int) ≤ x1 ∧ x1 ≤ 2147483647 := by omega) (hx2 : (-2147483648 : Int) ≤ x2 ∧ x2 ≤ 2147483647 := by omega) :
    RW g C S m A 138 120 [some (.ref m), some (.int (iI x1)), some (.int (iI x2)), l3] [] v Q := by
  refine qv_R (fun hvv => ?_)
  refine qv_g (pc' := 121) (ls' := [some (.ref m), some (.int (iI x1)), some (.int (iI x2)), l3]) (st' := [.ref m]) dX7_makeText_120 (fun _ _ => rfl) ?_
  refine qv_g (pc' := 122) (ls' := [some (.ref m), some (.int (iI x1)), some (.int (iI x2)), l3]) (st' := [.ref m, .ref m]) dX7_makeText_121 (fun _ _ => rfl) ?_
  refine qv_getI dX7_makeText_122 rfl rfl rfl ?_
  refine qv_putI dX7_makeText_125 rfl rfl (Or.inl rfl) rfl (Or.inl rfl) (hvv _ _) ?_
  generalize ew1 : uv v 37 0 (v 21 0) = w1
  replace h := h _ ew1.symm
  refine qv_R (fun hvw1 => ?_)
  refine qv_g (pc' := 129) (ls' := [some (.ref m), some (.int (iI x1)), some (.int (iI x2)), l3]) (st' := [.ref m]) dX7_makeText_128 (fun _ _ => rfl) ?_
  refine qv_g (pc' := 130) (ls' := [some (.ref m), some (.int (iI x1)), some (.int (iI x2)), l3]) (st' := [.int (iI x2), .ref m]) dX7_makeText_129 (fun _ _ => rfl) ?_
  exact qv_call dX7_makeText_130 (fun _ _ => ex_calV rfl (by decide)) rfl (Nat.le_of_ble_eq_true rfl) (Nat.le_of_ble_eq_true rfl) (Nat.le_of_ble_eq_true rfl) (fun _ hm => rcv0 rfl rfl (by decide) hm) rfl rfl rfl h
theorem v138_133 {v : VS} {Q : Rs → VS → Prop} {x1 : Int} {x2 : Int} {l3 : Option Value}
    (h : RW g C S m A 103 0 [some (.ref m), some (.int (iI x2)), some (.int (iI 1)), none] [] v (VK g C S m A 138 140 [some (.ref m), some (.int (iI x1)), some (.int (iI x2)), l3] [.ref m] Q)) (hx1 : (-2147483648 : Int) ≤ x1 ∧ x1 ≤ 2147483647 := by omega) (hx2 : (-2147483648 : Int) ≤ x2 ∧ x2 ≤ 2147483647 := by omega) :
    RW g C S m A 138 133 [some (.ref m), some (.int (iI x1)), some (.int (iI x2)), l3] [] v Q := by
  refine qv_R (fun hvv => ?_)
  refine qv_g (pc' := 134) (ls' := [some (.ref m), some (.int (iI x1)), some (.int (iI x2)), l3]) (st' := [.ref m]) dX7_makeText_133 (fun _ _ => rfl) ?_
  refine qv_g (pc' := 135) (ls' := [some (.ref m), some (.int (iI x1)), some (.int (iI x2)), l3]) (st' := [.ref m, .ref m]) dX7_makeText_134 (fun _ _ => rfl) ?_
  refine qv_g (pc' := 136) (ls' := [some (.ref m), some (.int (iI x1)), some (.int (iI x2)), l3]) (st' := [.int (iI x2), .ref m, .ref m]) dX7_makeText_135 (fun _ _ => rfl) ?_
  refine qv_ic dX7_makeText_136 ?_
  exact qv_call dX7_makeText_137 (fun _ _ => ex_calV rfl (by decide)) rfl (Nat.le_of_ble_eq_true rfl) (Nat.le_of_ble_eq_true rfl) (Nat.le_of_ble_eq_true rfl) (fun _ hm => rcv0 rfl rfl (by decide) hm) rfl rfl rfl h
theorem v138_140 {v : VS} {Q : Rs → VS → Prop} {x1 : Int} {x2 : Int} {l3 : Option Value} {u0 : Int}
    (h : RW g C S m A 135 0 [some (.ref m), some (.int (iI u0))] [] v (VK g C S m A 138 143 [some (.ref m), some (.int (iI x1)), some (.int (iI x2)), l3] [] Q)) (hx1 : (-2147483648 : Int) ≤ x1 ∧ x1 ≤ 2147483647 := by omega) (hx2 : (-2147483648 : Int) ≤ x2 ∧ x2 ≤ 2147483647 := by omega) (hu0 : (-2147483648 : Int) ≤ u0 ∧ u0 ≤ 2147483647 := by omega) :
    RW g C S m A 138 140 [some (.ref m), some (.int (iI x1)), some (.int (iI x2)), l3] [.int (iI u0), .ref m] v Q := by
  refine qv_R (fun hvv => ?_)
  exact qv_call dX7_makeText_140 (fun _ _ => ex_calV rfl (by decide)) rfl (Nat.le_of_ble_eq_true rfl) (Nat.le_of_ble_eq_true rfl) (Nat.le_of_ble_eq_true rfl) (fun _ hm => rcv0 rfl rfl (by decide) hm) rfl rfl rfl h
theorem v138_143 {v : VS} {Q : Rs → VS → Prop} {x1 : Int} {x2 : Int} {l3 : Option Value}
    (h : RW g C S m A 136 0 [some (.ref m), some (.int (iI x2)), none, none, none] [] v (VK g C S m A 138 148 [some (.ref m), some (.int (iI x1)), some (.int (iI x2)), l3] [] Q)) (hx1 : (-2147483648 : Int) ≤ x1 ∧ x1 ≤ 2147483647 := by omega) (hx2 : (-2147483648 : Int) ≤ x2 ∧ x2 ≤ 2147483647 := by omega) :
    RW g C S m A 138 143 [some (.ref m), some (.int (iI x1)), some (.int (iI x2)), l3] [] v Q := by
  refine qv_R (fun hvv => ?_)
  refine qv_g (pc' := 144) (ls' := [some (.ref m), some (.int (iI x1)), some (.int (iI x2)), l3]) (st' := [.ref m]) dX7_makeText_143 (fun _ _ => rfl) ?_
  refine qv_g (pc' := 145) (ls' := [some (.ref m), some (.int (iI x1)), some (.int (iI x2)), l3]) (st' := [.int (iI x2), .ref m]) dX7_makeText_144 (fun _ _ => rfl) ?_
  exact qv_call dX7_makeText_145 (fun _ _ => ex_calV rfl (by decide)) rfl (Nat.le_of_ble_eq_true rfl) (Nat.le_of_ble_eq_true rfl) (Nat.le_of_ble_eq_true rfl) (fun _ hm => rcv0 rfl rfl (by decide) hm) rfl rfl rfl h
theorem v138_148 {v : VS} {Q : Rs → VS → Prop} {x1 : Int} {x2 : Int} {l3 : Option Value}
    (h : RW g C S m A 103 0 [some (.ref m), some (.int (iI x2)), some (.int (iI 2)), none] [] v (VK g C S m A 138 155 [some (.ref m), some (.int (iI x1)), some (.int (iI x2)), l3] [.ref m] Q)) (hx1 : (-2147483648 : Int) ≤ x1 ∧ x1 ≤ 2147483647 := by omega) (hx2 : (-2147483648 : Int) ≤ x2 ∧ x2 ≤ 2147483647 := by omega) :
    RW g C S m A 138 148 [some (.ref m), some (.int (iI x1)), some (.int (iI x2)), l3] [] v Q := by
  refine qv_R (fun hvv => ?_)
  refine qv_g (pc' := 149) (ls' := [some (.ref m), some (.int (iI x1)), some (.int (iI x2)), l3]) (st' := [.ref m]) dX7_makeText_148 (fun _ _ => rfl) ?_
  refine qv_g (pc' := 150) (ls' := [some (.ref m), some (.int (iI x1)), some (.int (iI x2)), l3]) (st' := [.ref m, .ref m]) dX7_makeText_149 (fun _ _ => rfl) ?_
  refine qv_g (pc' := 151) (ls' := [some (.ref m), some (.int (iI x1)), some (.int (iI x2)), l3]) (st' := [.int (iI x2), .ref m, .ref m]) dX7_makeText_150 (fun _ _ => rfl) ?_
  refine qv_ic dX7_makeText_151 ?_
  exact qv_call dX7_makeText_152 (fun _ _ => ex_calV rfl (by decide)) rfl (Nat.le_of_ble_eq_true rfl) (Nat.le_of_ble_eq_true rfl) (Nat.le_of_ble_eq_true rfl) (fun _ hm => rcv0 rfl rfl (by decide) hm) rfl rfl rfl h
theorem v138_155 {v : VS} {Q : Rs → VS → Prop} {x1 : Int} {l2 : Option Value} {l3 : Option Value} {u0 : Int}
    (h : RW g C S m A 135 0 [some (.ref m), some (.int (iI u0))] [] v (VK g C S m A 138 158 [some (.ref m), some (.int (iI x1)), l2, l3] [] Q)) (hx1 : (-2147483648 : Int) ≤ x1 ∧ x1 ≤ 2147483647 := by omega) (hu0 : (-2147483648 : Int) ≤ u0 ∧ u0 ≤ 2147483647 := by omega) :
    RW g C S m A 138 155 [some (.ref m), some (.int (iI x1)), l2, l3] [.int (iI u0), .ref m] v Q := by
  refine qv_R (fun hvv => ?_)
  exact qv_call dX7_makeText_155 (fun _ _ => ex_calV rfl (by decide)) rfl (Nat.le_of_ble_eq_true rfl) (Nat.le_of_ble_eq_true rfl) (Nat.le_of_ble_eq_true rfl) (fun _ hm => rcv0 rfl rfl (by decide) hm) rfl rfl rfl h
theorem v138_158 {v : VS} {Q : Rs → VS → Prop} {x1 : Int} {l2 : Option Value} {l3 : Option Value}
    (h : (v 21 0 ≤ v 37 0 → RW g C S m A 138 175 [some (.ref m), some (.int (iI x1)), l2, l3] [] v Q) ∧ (v 37 0 < v 21 0 → RW g C S m A 111 0 [some (.ref m), some (.int (iI 46))] [] v (VK g C S m A 138 175 [some (.ref m), some (.int (iI x1)), l2, l3] [] Q))) (hx1 : (-2147483648 : Int) ≤ x1 ∧ x1 ≤ 2147483647 := by omega) :
    RW g C S m A 138 158 [some (.ref m), some (.int (iI x1)), l2, l3] [] v Q := by
  refine qv_R (fun hvv => ?_)
  refine qv_g (pc' := 159) (ls' := [some (.ref m), some (.int (iI x1)), l2, l3]) (st' := [.ref m]) dX7_makeText_158 (fun _ _ => rfl) ?_
  refine qv_getI dX7_makeText_159 rfl rfl rfl ?_
  refine qv_g (pc' := 163) (ls' := [some (.ref m), some (.int (iI x1)), l2, l3]) (st' := [.ref m, .int (iI (v 21 0))]) dX7_makeText_162 (fun _ _ => rfl) ?_
  refine qv_getI dX7_makeText_163 rfl rfl rfl ?_
  obtain ⟨h1, h2⟩ := h
  refine qv_icmp (t := 175) dX7_makeText_166 (by decide) (d_le (hvv _ _) (hvv _ _)) (fun c => ?_) (fun c => ?_)
  · have h := h1 c
    exact h
  · have h := h2 (Int.not_le.mp c)
    refine qv_g (pc' := 170) (ls' := [some (.ref m), some (.int (iI x1)), l2, l3]) (st' := [.ref m]) dX7_makeText_169 (fun _ _ => rfl) ?_
    refine qv_bi dX7_makeText_170 (by decide) ?_
    exact qv_call dX7_makeText_172 (fun _ _ => ex_calV rfl (by decide)) rfl (Nat.le_of_ble_eq_true rfl) (Nat.le_of_ble_eq_true rfl) (Nat.le_of_ble_eq_true rfl) (fun _ hm => rcv0 rfl rfl (by decide) hm) rfl rfl rfl h
theorem v138_175 {v : VS} {Q : Rs → VS → Prop} {x1 : Int} {l2 : Option Value} {l3 : Option Value}
    (h : ((0 : Int) ≤ x1 ∧ (x1 : Int) < 24) ∧ (∀ w2, w2 = uv v 30 x1 (v 21 0) → RW g C S m A 138 187 [some (.ref m), some (.int (iI x1)), (clr l2), some (.int (iI 0))] [] w2 Q)) (hx1 : (-2147483648 : Int) ≤ x1 ∧ x1 ≤ 2147483647 := by omega) :
    RW g C S m A 138 175 [some (.ref m), some (.int (iI x1)), l2, l3] [] v Q := by
  refine qv_R (fun hvv => ?_)
  refine qv_g (pc' := 176) (ls' := [some (.ref m), some (.int (iI x1)), l2, l3]) (st' := [.ref m]) dX7_makeText_175 (fun _ _ => rfl) ?_
  refine qv_getA dX7_makeText_176 rfl rfl (by decide) ?_
  refine qv_g (pc' := 180) (ls' := [some (.ref m), some (.int (iI x1)), l2, l3]) (st' := [.int (iI x1), .ref (A 30)]) dX7_makeText_179 (fun _ _ => rfl) ?_
  refine qv_g (pc' := 181) (ls' := [some (.ref m), some (.int (iI x1)), l2, l3]) (st' := [.ref m, .int (iI x1), .ref (A 30)]) dX7_makeText_180 (fun _ _ => rfl) ?_
  refine qv_getI dX7_makeText_181 rfl rfl rfl ?_
  obtain ⟨hr1, h⟩ := h
  refine qv_iast dX7_makeText_184 (by decide) hr1 (by decide) (hvv _ _) ?_
  generalize ew2 : uv v 30 x1 (v 21 0) = w2
  replace h := h _ ew2.symm
  refine qv_R (fun hvw2 => ?_)
  refine qv_ic dX7_makeText_185 ?_
  refine qv_g (pc' := 187) (ls' := [some (.ref m), some (.int (iI x1)), (clr l2), some (.int (iI 0))]) (st' := []) dX7_makeText_186 (fun _ _ => rfl) ?_
  exact h
theorem v138_187 {v : VS} {Q : Rs → VS → Prop} {x1 : Int} {l2 : Option Value} {x3 : Int}
    (h : (v 21 0 ≤ x3 → Q (Sum.inl none) v) ∧ (x3 < v 21 0 → ((-2147483648 : Int) ≤ 1000 * x1 ∧ 1000 * x1 ≤ 2147483647) ∧ ((-2147483648 : Int) ≤ (1000 * x1) + x3 ∧ (1000 * x1) + x3 ≤ 2147483647) ∧ ((0 : Int) ≤ x3 ∧ (x3 : Int) < 1000) ∧ ((0 : Int) ≤ (1000 * x1) + x3 ∧ ((1000 * x1) + x3 : Int) < 24000) ∧ (∀ w5, w5 = uv v 31 ((1000 * x1) + x3) (v 20 x3) → ((-2147483648 : Int) ≤ x3 + 1 ∧ x3 + 1 ≤ 2147483647) ∧ RW g C S m A 138 187 [some (.ref m), some (.int (iI x1)), (clr l2), some (.int (iI (x3 + 1)))] [] w5 Q))) (hx1 : (-2147483648 : Int) ≤ x1 ∧ x1 ≤ 2147483647 := by omega) (hx3 : (-2147483648 : Int) ≤ x3 ∧ x3 ≤ 2147483647 := by omega) :
    RW g C S m A 138 187 [some (.ref m), some (.int (iI x1)), l2, some (.int (iI x3))] [] v Q := by
  refine qv_R (fun hvv => ?_)
  refine qv_g (pc' := 188) (ls' := [some (.ref m), some (.int (iI x1)), l2, some (.int (iI x3))]) (st' := [.int (iI x3)]) dX7_makeText_187 (fun _ _ => rfl) ?_
  refine qv_g (pc' := 189) (ls' := [some (.ref m), some (.int (iI x1)), l2, some (.int (iI x3))]) (st' := [.ref m, .int (iI x3)]) dX7_makeText_188 (fun _ _ => rfl) ?_
  refine qv_getI dX7_makeText_189 rfl rfl rfl ?_
  obtain ⟨h1, h2⟩ := h
  refine qv_icmp (t := 219) dX7_makeText_192 (by decide) (d_ge hx3 (hvv _ _)) (fun c => ?_) (fun c => ?_)
  · have h := h1 c
    exact qv_vret dX7_makeText_219 rfl h
  · have h := h2 (Int.not_le.mp c)
    refine qv_g (pc' := 196) (ls' := [some (.ref m), some (.int (iI x1)), l2, some (.int (iI x3))]) (st' := [.ref m]) dX7_makeText_195 (fun _ _ => rfl) ?_
    refine qv_getA dX7_makeText_196 rfl rfl (by decide) ?_
    refine qv_si dX7_makeText_199 (by decide) ?_
    refine qv_g (pc' := 203) (ls' := [some (.ref m), some (.int (iI x1)), l2, some (.int (iI x3))]) (st' := [.int (iI x1), .int (iI 1000), .ref (A 31)]) dX7_makeText_202 (fun _ _ => rfl) ?_
    obtain ⟨hr1, h⟩ := h
    refine qv_mul dX7_makeText_203 ?_
    refine qv_g (pc' := 205) (ls' := [some (.ref m), some (.int (iI x1)), l2, some (.int (iI x3))]) (st' := [.int (iI x3), .int (iI (1000 * x1)), .ref (A 31)]) dX7_makeText_204 (fun _ _ => rfl) ?_
    obtain ⟨hr2, h⟩ := h
    refine qv_add dX7_makeText_205 ?_
    refine qv_g (pc' := 207) (ls' := [some (.ref m), some (.int (iI x1)), l2, some (.int (iI x3))]) (st' := [.ref m, .int (iI ((1000 * x1) + x3)), .ref (A 31)]) dX7_makeText_206 (fun _ _ => rfl) ?_
    refine qv_getA dX7_makeText_207 rfl rfl (by decide) ?_
    refine qv_g (pc' := 211) (ls' := [some (.ref m), some (.int (iI x1)), l2, some (.int (iI x3))]) (st' := [.int (iI x3), .ref (A 20), .int (iI ((1000 * x1) + x3)), .ref (A 31)]) dX7_makeText_210 (fun _ _ => rfl) ?_
    obtain ⟨hr3, h⟩ := h
    refine qv_iald dX7_makeText_211 (by decide) hr3 (by decide) ?_
    obtain ⟨hr4, h⟩ := h
    refine qv_iast dX7_makeText_212 (by decide) hr4 (by decide) (hvv _ _) ?_
    generalize ew5 : uv v 31 ((1000 * x1) + x3) (v 20 x3) = w5
    replace h := h _ ew5.symm
    refine qv_R (fun hvw5 => ?_)
    obtain ⟨hr6, h⟩ := h
    refine qv_inc (ls' := [some (.ref m), some (.int (iI x1)), (clr l2), some (.int (iI (x3 + 1)))]) dX7_makeText_213 rfl (Nat.le_of_ble_eq_true rfl) rfl ?_
    refine qv_goto (t := 187) dX7_makeText_216 (by decide) ?_
    exact h
theorem v139_0 {v : VS} {Q : Rs → VS → Prop} {x1 : Int} {x2 : Int}
    (h : RW g C S m A 103 0 [some (.ref m), some (.int (iI x1)), some (.int (iI x2)), none] [] v (VK g C S m A 139 6 [some (.ref m), some (.int (iI x1)), some (.int (iI x2))] [] Q)) (hx1 : (-2147483648 : Int) ≤ x1 ∧ x1 ≤ 2147483647 := by omega) (hx2 : (-2147483648 : Int) ≤ x2 ∧ x2 ≤ 2147483647 := by omega) :
    RW g C S m A 139 0 [some (.ref m), some (.int (iI x1)), some (.int (iI x2))] [] v Q := by
  refine qv_R (fun hvv => ?_)
  refine qv_g (pc' := 1) (ls' := [some (.ref m), some (.int (iI x1)), some (.int (iI x2))]) (st' := [.ref m]) dX7_want_0 (fun _ _ => rfl) ?_
  refine qv_g (pc' := 2) (ls' := [some (.ref m), some (.int (iI x1)), some (.int (iI x2))]) (st' := [.int (iI x1), .ref m]) dX7_want_1 (fun _ _ => rfl) ?_
  refine qv_g (pc' := 3) (ls' := [some (.ref m), some (.int (iI x1)), some (.int (iI x2))]) (st' := [.int (iI x2), .int (iI x1), .ref m]) dX7_want_2 (fun _ _ => rfl) ?_
  exact qv_call dX7_want_3 (fun _ _ => ex_calV rfl (by decide)) rfl (Nat.le_of_ble_eq_true rfl) (Nat.le_of_ble_eq_true rfl) (Nat.le_of_ble_eq_true rfl) (fun _ hm => rcv0 rfl rfl (by decide) hm) rfl rfl rfl h
theorem v139_6 {v : VS} {Q : Rs → VS → Prop} {x1 : Int} {x2 : Int} {u0 : Int}
    (h : (¬ u0 = (-1) → RW g C S m A 139 40 [some (.ref m), some (.int (iI x1)), some (.int (iI x2))] [] v Q) ∧ (u0 = (-1) → ((0 : Int) ≤ v 32 0 ∧ (v 32 0 : Int) < 96) ∧ (∀ w2, w2 = uv v 33 (v 32 0) x1 → ((0 : Int) ≤ w2 32 0 ∧ (w2 32 0 : Int) < 96) ∧ (∀ w4, w4 = uv w2 34 (w2 32 0) x2 → ((-2147483648 : Int) ≤ (w4 32 0) + 1 ∧ (w4 32 0) + 1 ≤ 2147483647) ∧ (∀ w6, w6 = uv w4 32 0 ((w4 32 0) + 1) → RW g C S m A 139 40 [some (.ref m), some (.int (iI x1)), some (.int (iI x2))] [] w6 Q))))) (hx1 : (-2147483648 : Int) ≤ x1 ∧ x1 ≤ 2147483647 := by omega) (hx2 : (-2147483648 : Int) ≤ x2 ∧ x2 ≤ 2147483647 := by omega) (hu0 : (-2147483648 : Int) ≤ u0 ∧ u0 ≤ 2147483647 := by omega) :
    RW g C S m A 139 6 [some (.ref m), some (.int (iI x1)), some (.int (iI x2))] [.int (iI u0)] v Q := by
  refine qv_R (fun hvv => ?_)
  refine qv_ic dX7_want_6 ?_
  obtain ⟨h1, h2⟩ := h
  refine qv_icmp (t := 40) dX7_want_7 (by decide) (d_ne hu0 (by decide)) (fun c => ?_) (fun c => ?_)
  · have h := h1 c
    exact h
  · have h := h2 (Decidable.of_not_not c)
    refine qv_g (pc' := 11) (ls' := [some (.ref m), some (.int (iI x1)), some (.int (iI x2))]) (st' := [.ref m]) dX7_want_10 (fun _ _ => rfl) ?_
    refine qv_getA dX7_want_11 rfl rfl (by decide) ?_
    refine qv_g (pc' := 15) (ls' := [some (.ref m), some (.int (iI x1)), some (.int (iI x2))]) (st' := [.ref m, .ref (A 33)]) dX7_want_14 (fun _ _ => rfl) ?_
    refine qv_getI dX7_want_15 rfl rfl rfl ?_
    refine qv_g (pc' := 19) (ls' := [some (.ref m), some (.int (iI x1)), some (.int (iI x2))]) (st' := [.int (iI x1), .int (iI (v 32 0)), .ref (A 33)]) dX7_want_18 (fun _ _ => rfl) ?_
    obtain ⟨hr1, h⟩ := h
    refine qv_iast dX7_want_19 (by decide) hr1 (by decide) hx1 ?_
    generalize ew2 : uv v 33 (v 32 0) x1 = w2
    replace h := h _ ew2.symm
    refine qv_R (fun hvw2 => ?_)
    refine qv_g (pc' := 21) (ls' := [some (.ref m), some (.int (iI x1)), some (.int (iI x2))]) (st' := [.ref m]) dX7_want_20 (fun _ _ => rfl) ?_
    refine qv_getA dX7_want_21 rfl rfl (by decide) ?_
    refine qv_g (pc' := 25) (ls' := [some (.ref m), some (.int (iI x1)), some (.int (iI x2))]) (st' := [.ref m, .ref (A 34)]) dX7_want_24 (fun _ _ => rfl) ?_
    refine qv_getI dX7_want_25 rfl rfl rfl ?_
    refine qv_g (pc' := 29) (ls' := [some (.ref m), some (.int (iI x1)), some (.int (iI x2))]) (st' := [.int (iI x2), .int (iI (w2 32 0)), .ref (A 34)]) dX7_want_28 (fun _ _ => rfl) ?_
    obtain ⟨hr3, h⟩ := h
    refine qv_iast dX7_want_29 (by decide) hr3 (by decide) hx2 ?_
    generalize ew4 : uv w2 34 (w2 32 0) x2 = w4
    replace h := h _ ew4.symm
    refine qv_R (fun hvw4 => ?_)
    refine qv_g (pc' := 31) (ls' := [some (.ref m), some (.int (iI x1)), some (.int (iI x2))]) (st' := [.ref m]) dX7_want_30 (fun _ _ => rfl) ?_
    refine qv_g (pc' := 32) (ls' := [some (.ref m), some (.int (iI x1)), some (.int (iI x2))]) (st' := [.ref m, .ref m]) dX7_want_31 (fun _ _ => rfl) ?_
    refine qv_getI dX7_want_32 rfl rfl rfl ?_
    refine qv_ic dX7_want_35 ?_
    obtain ⟨hr5, h⟩ := h
    refine qv_add dX7_want_36 ?_
    refine qv_putI dX7_want_37 rfl rfl (Or.inl rfl) rfl (Or.inl rfl) hr5 ?_
    generalize ew6 : uv w4 32 0 ((w4 32 0) + 1) = w6
    replace h := h _ ew6.symm
    refine qv_R (fun hvw6 => ?_)
    exact h
theorem v139_40 {v : VS} {Q : Rs → VS → Prop} {l0 : Option Value} {l1 : Option Value} {l2 : Option Value}
    (h : Q (Sum.inl none) v)  :
    RW g C S m A 139 40 [l0, l1, l2] [] v Q := by
  refine qv_R (fun hvv => ?_)
  exact qv_vret dX7_want_40 rfl h
theorem v140_0 {v : VS} {Q : Rs → VS → Prop} {x1 : Int} {l2 : Option Value}
    (h : ((0 : Int) ≤ x1 ∧ (x1 : Int) < 24) ∧ (3 ≤ v 2 x1 → RW g C S m A 140 18 [some (.ref m), some (.int (iI x1)), some (.int (iI (v 2 x1)))] [] v Q) ∧ (v 2 x1 < 3 → RW g C S m A 139 0 [some (.ref m), some (.int (iI x1)), some (.int (iI 0))] [] v (VK g C S m A 140 18 [some (.ref m), some (.int (iI x1)), some (.int (iI (v 2 x1)))] [] Q))) (hx1 : (-2147483648 : Int) ≤ x1 ∧ x1 ≤ 2147483647 := by omega) :
    RW g C S m A 140 0 [some (.ref m), some (.int (iI x1)), l2] [] v Q := by
  refine qv_R (fun hvv => ?_)
  refine qv_g (pc' := 1) (ls' := [some (.ref m), some (.int (iI x1)), l2]) (st' := [.ref m]) dX7_lookWhatLacks_0 (fun _ _ => rfl) ?_
  refine qv_getA dX7_lookWhatLacks_1 rfl rfl (by decide) ?_
  refine qv_g (pc' := 5) (ls' := [some (.ref m), some (.int (iI x1)), l2]) (st' := [.int (iI x1), .ref (A 2)]) dX7_lookWhatLacks_4 (fun _ _ => rfl) ?_
  obtain ⟨hr1, h⟩ := h
  refine qv_iald dX7_lookWhatLacks_5 (by decide) hr1 (by decide) ?_
  refine qv_g (pc' := 7) (ls' := [some (.ref m), some (.int (iI x1)), some (.int (iI (v 2 x1)))]) (st' := []) dX7_lookWhatLacks_6 (fun _ _ => rfl) ?_
  refine qv_g (pc' := 8) (ls' := [some (.ref m), some (.int (iI x1)), some (.int (iI (v 2 x1)))]) (st' := [.int (iI (v 2 x1))]) dX7_lookWhatLacks_7 (fun _ _ => rfl) ?_
  refine qv_ic dX7_lookWhatLacks_8 ?_
  obtain ⟨h1, h2⟩ := h
  refine qv_icmp (t := 18) dX7_lookWhatLacks_9 (by decide) (d_ge (hvv _ _) (by decide)) (fun c => ?_) (fun c => ?_)
  · have h := h1 c
    exact h
  · have h := h2 (Int.not_le.mp c)
    refine qv_g (pc' := 13) (ls' := [some (.ref m), some (.int (iI x1)), some (.int (iI (v 2 x1)))]) (st' := [.ref m]) dX7_lookWhatLacks_12 (fun _ _ => rfl) ?_
    refine qv_g (pc' := 14) (ls' := [some (.ref m), some (.int (iI x1)), some (.int (iI (v 2 x1)))]) (st' := [.int (iI x1), .ref m]) dX7_lookWhatLacks_13 (fun _ _ => rfl) ?_
    refine qv_ic dX7_lookWhatLacks_14 ?_
    exact qv_call dX7_lookWhatLacks_15 (fun _ _ => ex_calV rfl (by decide)) rfl (Nat.le_of_ble_eq_true rfl) (Nat.le_of_ble_eq_true rfl) (Nat.le_of_ble_eq_true rfl) (fun _ hm => rcv0 rfl rfl (by decide) hm) rfl rfl rfl h
theorem v140_18 {v : VS} {Q : Rs → VS → Prop} {x1 : Int} {x2 : Int}
    (h : RW g C S m A 139 0 [some (.ref m), some (.int (iI x1)), some (.int (iI 1))] [] v (VK g C S m A 140 24 [some (.ref m), some (.int (iI x1)), some (.int (iI x2))] [] Q)) (hx1 : (-2147483648 : Int) ≤ x1 ∧ x1 ≤ 2147483647 := by omega) (hx2 : (-2147483648 : Int) ≤ x2 ∧ x2 ≤ 2147483647 := by omega) :
    RW g C S m A 140 18 [some (.ref m), some (.int (iI x1)), some (.int (iI x2))] [] v Q := by
  refine qv_R (fun hvv => ?_)
  refine qv_g (pc' := 19) (ls' := [some (.ref m), some (.int (iI x1)), some (.int (iI x2))]) (st' := [.ref m]) dX7_lookWhatLacks_18 (fun _ _ => rfl) ?_
  refine qv_g (pc' := 20) (ls' := [some (.ref m), some (.int (iI x1)), some (.int (iI x2))]) (st' := [.int (iI x1), .ref m]) dX7_lookWhatLacks_19 (fun _ _ => rfl) ?_
  refine qv_ic dX7_lookWhatLacks_20 ?_
  exact qv_call dX7_lookWhatLacks_21 (fun _ _ => ex_calV rfl (by decide)) rfl (Nat.le_of_ble_eq_true rfl) (Nat.le_of_ble_eq_true rfl) (Nat.le_of_ble_eq_true rfl) (fun _ hm => rcv0 rfl rfl (by decide) hm) rfl rfl rfl h
theorem v140_24 {v : VS} {Q : Rs → VS → Prop} {x1 : Int} {x2 : Int}
    (h : (4 ≤ x2 → RW g C S m A 140 35 [some (.ref m), some (.int (iI x1)), some (.int (iI x2))] [] v Q) ∧ (x2 < 4 → RW g C S m A 139 0 [some (.ref m), some (.int (iI x1)), some (.int (iI 2))] [] v (VK g C S m A 140 35 [some (.ref m), some (.int (iI x1)), some (.int (iI x2))] [] Q))) (hx1 : (-2147483648 : Int) ≤ x1 ∧ x1 ≤ 2147483647 := by omega) (hx2 : (-2147483648 : Int) ≤ x2 ∧ x2 ≤ 2147483647 := by omega) :
    RW g C S m A 140 24 [some (.ref m), some (.int (iI x1)), some (.int (iI x2))] [] v Q := by
  refine qv_R (fun hvv => ?_)
  refine qv_g (pc' := 25) (ls' := [some (.ref m), some (.int (iI x1)), some (.int (iI x2))]) (st' := [.int (iI x2)]) dX7_lookWhatLacks_24 (fun _ _ => rfl) ?_
  refine qv_ic dX7_lookWhatLacks_25 ?_
  obtain ⟨h1, h2⟩ := h
  refine qv_icmp (t := 35) dX7_lookWhatLacks_26 (by decide) (d_ge hx2 (by decide)) (fun c => ?_) (fun c => ?_)
  · have h := h1 c
    exact h
  · have h := h2 (Int.not_le.mp c)
    refine qv_g (pc' := 30) (ls' := [some (.ref m), some (.int (iI x1)), some (.int (iI x2))]) (st' := [.ref m]) dX7_lookWhatLacks_29 (fun _ _ => rfl) ?_
    refine qv_g (pc' := 31) (ls' := [some (.ref m), some (.int (iI x1)), some (.int (iI x2))]) (st' := [.int (iI x1), .ref m]) dX7_lookWhatLacks_30 (fun _ _ => rfl) ?_
    refine qv_ic dX7_lookWhatLacks_31 ?_
    exact qv_call dX7_lookWhatLacks_32 (fun _ _ => ex_calV rfl (by decide)) rfl (Nat.le_of_ble_eq_true rfl) (Nat.le_of_ble_eq_true rfl) (Nat.le_of_ble_eq_true rfl) (fun _ hm => rcv0 rfl rfl (by decide) hm) rfl rfl rfl h
theorem v140_35 {v : VS} {Q : Rs → VS → Prop} {x1 : Int} {x2 : Int}
    (h : (3 ≤ x2 → RW g C S m A 140 64 [some (.ref m), some (.int (iI x1)), some (.int (iI x2))] [] v Q) ∧ (x2 < 3 → (¬ x2 = 0 → (¬ x2 = 1 → RW g C S m A 140 61 [some (.ref m), some (.int (iI x1)), some (.int (iI x2))] [.int (iI 6), .int (iI x1), .ref m] v Q) ∧ (x2 = 1 → RW g C S m A 140 61 [some (.ref m), some (.int (iI x1)), some (.int (iI x2))] [.int (iI 4), .int (iI x1), .ref m] v Q)) ∧ (x2 = 0 → RW g C S m A 140 61 [some (.ref m), some (.int (iI x1)), some (.int (iI x2))] [.int (iI 3), .int (iI x1), .ref m] v Q))) (hx1 : (-2147483648 : Int) ≤ x1 ∧ x1 ≤ 2147483647 := by omega) (hx2 : (-2147483648 : Int) ≤ x2 ∧ x2 ≤ 2147483647 := by omega) :
    RW g C S m A 140 35 [some (.ref m), some (.int (iI x1)), some (.int (iI x2))] [] v Q := by
  refine qv_R (fun hvv => ?_)
  refine qv_g (pc' := 36) (ls' := [some (.ref m), some (.int (iI x1)), some (.int (iI x2))]) (st' := [.int (iI x2)]) dX7_lookWhatLacks_35 (fun _ _ => rfl) ?_
  refine qv_ic dX7_lookWhatLacks_36 ?_
  obtain ⟨h1, h2⟩ := h
  refine qv_icmp (t := 64) dX7_lookWhatLacks_37 (by decide) (d_ge hx2 (by decide)) (fun c => ?_) (fun c => ?_)
  · have h := h1 c
    exact h
  · have h := h2 (Int.not_le.mp c)
    refine qv_g (pc' := 41) (ls' := [some (.ref m), some (.int (iI x1)), some (.int (iI x2))]) (st' := [.ref m]) dX7_lookWhatLacks_40 (fun _ _ => rfl) ?_
    refine qv_g (pc' := 42) (ls' := [some (.ref m), some (.int (iI x1)), some (.int (iI x2))]) (st' := [.int (iI x1), .ref m]) dX7_lookWhatLacks_41 (fun _ _ => rfl) ?_
    refine qv_g (pc' := 43) (ls' := [some (.ref m), some (.int (iI x1)), some (.int (iI x2))]) (st' := [.int (iI x2), .int (iI x1), .ref m]) dX7_lookWhatLacks_42 (fun _ _ => rfl) ?_
    obtain ⟨h1, h2⟩ := h
    refine qv_if (t := 50) dX7_lookWhatLacks_43 (by decide) (d_ne hx2 (by decide)) (fun c => ?_) (fun c => ?_)
    · have h := h1 c
      refine qv_g (pc' := 51) (ls' := [some (.ref m), some (.int (iI x1)), some (.int (iI x2))]) (st' := [.int (iI x2), .int (iI x1), .ref m]) dX7_lookWhatLacks_50 (fun _ _ => rfl) ?_
      refine qv_ic dX7_lookWhatLacks_51 ?_
      obtain ⟨h1, h2⟩ := h
      refine qv_icmp (t := 59) dX7_lookWhatLacks_52 (by decide) (d_ne hx2 (by decide)) (fun c => ?_) (fun c => ?_)
      · have h := h1 c
        refine qv_bi dX7_lookWhatLacks_59 (by decide) ?_
        exact h
      · have h := h2 (Decidable.of_not_not c)
        refine qv_ic dX7_lookWhatLacks_55 ?_
        refine qv_goto (t := 61) dX7_lookWhatLacks_56 (by decide) ?_
        exact h
    · have h := h2 (Decidable.of_not_not c)
      refine qv_ic dX7_lookWhatLacks_46 ?_
      refine qv_goto (t := 61) dX7_lookWhatLacks_47 (by decide) ?_
      exact h
theorem v140_61 {v : VS} {Q : Rs → VS → Prop} {l0 : Option Value} {l1 : Option Value} {l2 : Option Value} {u0 : Int} {u1 : Int}
    (h : RW g C S m A 139 0 [some (.ref m), some (.int (iI u1)), some (.int (iI u0))] [] v (VK g C S m A 140 64 [l0, l1, l2] [] Q)) (hu0 : (-2147483648 : Int) ≤ u0 ∧ u0 ≤ 2147483647 := by omega) (hu1 : (-2147483648 : Int) ≤ u1 ∧ u1 ≤ 2147483647 := by omega) :
    RW g C S m A 140 61 [l0, l1, l2] [.int (iI u0), .int (iI u1), .ref m] v Q := by
  refine qv_R (fun hvv => ?_)
  exact qv_call dX7_lookWhatLacks_61 (fun _ _ => ex_calV rfl (by decide)) rfl (Nat.le_of_ble_eq_true rfl) (Nat.le_of_ble_eq_true rfl) (Nat.le_of_ble_eq_true rfl) (fun _ hm => rcv0 rfl rfl (by decide) hm) rfl rfl rfl h
theorem v140_64 {v : VS} {Q : Rs → VS → Prop} {l0 : Option Value} {l1 : Option Value} {l2 : Option Value}
    (h : Q (Sum.inl none) v)  :
    RW g C S m A 140 64 [l0, l1, l2] [] v Q := by
  refine qv_R (fun hvv => ?_)
  exact qv_vret dX7_lookWhatLacks_64 rfl h
theorem v141_0 {v : VS} {Q : Rs → VS → Prop} {l1 : Option Value}
    (h : (∀ w1, w1 = uv v 0 0 0 → RW g C S m A 125 0 [some (.ref m), none, none, none, none] [] w1 (VK g C S m A 141 9 [some (.ref m), l1] [] Q)))  :
    RW g C S m A 141 0 [some (.ref m), l1] [] v Q := by
  refine qv_R (fun hvv => ?_)
  refine qv_g (pc' := 1) (ls' := [some (.ref m), l1]) (st' := [.ref m]) dX7_run_0 (fun _ _ => rfl) ?_
  refine qv_ic dX7_run_1 ?_
  refine qv_putI dX7_run_2 rfl rfl (Or.inl rfl) rfl (Or.inl rfl) (by decide) ?_
  generalize ew1 : uv v 0 0 0 = w1
  replace h := h _ ew1.symm
  refine qv_R (fun hvw1 => ?_)
  refine qv_g (pc' := 6) (ls' := [some (.ref m), l1]) (st' := [.ref m]) dX7_run_5 (fun _ _ => rfl) ?_
  exact qv_call dX7_run_6 (fun _ _ => ex_calV rfl (by decide)) rfl (Nat.le_of_ble_eq_true rfl) (Nat.le_of_ble_eq_true rfl) (Nat.le_of_ble_eq_true rfl) (fun _ hm => rcv0 rfl rfl (by decide) hm) rfl rfl rfl h
theorem v141_9 {v : VS} {Q : Rs → VS → Prop} {l1 : Option Value}
    (h : RW g C S m A 141 11 [some (.ref m), some (.int (iI 0))] [] v Q)  :
    RW g C S m A 141 9 [some (.ref m), l1] [] v Q := by
  refine qv_R (fun hvv => ?_)
  refine qv_ic dX7_run_9 ?_
  refine qv_g (pc' := 11) (ls' := [some (.ref m), some (.int (iI 0))]) (st' := []) dX7_run_10 (fun _ _ => rfl) ?_
  exact h
theorem v141_11 {v : VS} {Q : Rs → VS → Prop} {x1 : Int}
    (h : (v 25 0 ≤ x1 → RW g C S m A 131 0 [some (.ref m), none, none, none, none] [] v (VK g C S m A 141 34 [some (.ref m), some (.int (iI x1))] [] Q)) ∧ (x1 < v 25 0 → RW g C S m A 129 0 [some (.ref m), some (.int (iI x1)), none, none, none] [] v (VK g C S m A 141 24 [some (.ref m), some (.int (iI x1))] [] Q))) (hx1 : (-2147483648 : Int) ≤ x1 ∧ x1 ≤ 2147483647 := by omega) :
    RW g C S m A 141 11 [some (.ref m), some (.int (iI x1))] [] v Q := by
  refine qv_R (fun hvv => ?_)
  refine qv_g (pc' := 12) (ls' := [some (.ref m), some (.int (iI x1))]) (st' := [.int (iI x1)]) dX7_run_11 (fun _ _ => rfl) ?_
  refine qv_g (pc' := 13) (ls' := [some (.ref m), some (.int (iI x1))]) (st' := [.ref m, .int (iI x1)]) dX7_run_12 (fun _ _ => rfl) ?_
  refine qv_getI dX7_run_13 rfl rfl rfl ?_
  obtain ⟨h1, h2⟩ := h
  refine qv_icmp (t := 30) dX7_run_16 (by decide) (d_ge hx1 (hvv _ _)) (fun c => ?_) (fun c => ?_)
  · have h := h1 c
    refine qv_g (pc' := 31) (ls' := [some (.ref m), some (.int (iI x1))]) (st' := [.ref m]) dX7_run_30 (fun _ _ => rfl) ?_
    exact qv_call dX7_run_31 (fun _ _ => ex_calV rfl (by decide)) rfl (Nat.le_of_ble_eq_true rfl) (Nat.le_of_ble_eq_true rfl) (Nat.le_of_ble_eq_true rfl) (fun _ hm => rcv0 rfl rfl (by decide) hm) rfl rfl rfl h
  · have h := h2 (Int.not_le.mp c)
    refine qv_g (pc' := 20) (ls' := [some (.ref m), some (.int (iI x1))]) (st' := [.ref m]) dX7_run_19 (fun _ _ => rfl) ?_
    refine qv_g (pc' := 21) (ls' := [some (.ref m), some (.int (iI x1))]) (st' := [.int (iI x1), .ref m]) dX7_run_20 (fun _ _ => rfl) ?_
    exact qv_call dX7_run_21 (fun _ _ => ex_calV rfl (by decide)) rfl (Nat.le_of_ble_eq_true rfl) (Nat.le_of_ble_eq_true rfl) (Nat.le_of_ble_eq_true rfl) (fun _ hm => rcv0 rfl rfl (by decide) hm) rfl rfl rfl h
theorem v141_24 {v : VS} {Q : Rs → VS → Prop} {x1 : Int}
    (h : ((-2147483648 : Int) ≤ x1 + 1 ∧ x1 + 1 ≤ 2147483647) ∧ RW g C S m A 141 11 [some (.ref m), some (.int (iI (x1 + 1)))] [] v Q) (hx1 : (-2147483648 : Int) ≤ x1 ∧ x1 ≤ 2147483647 := by omega) :
    RW g C S m A 141 24 [some (.ref m), some (.int (iI x1))] [] v Q := by
  refine qv_R (fun hvv => ?_)
  obtain ⟨hr1, h⟩ := h
  refine qv_inc (ls' := [some (.ref m), some (.int (iI (x1 + 1)))]) dX7_run_24 rfl (Nat.le_of_ble_eq_true rfl) rfl ?_
  refine qv_goto (t := 11) dX7_run_27 (by decide) ?_
  exact h
theorem v141_34 {v : VS} {Q : Rs → VS → Prop} {l1 : Option Value}
    (h : (∀ w1, w1 = uv v 32 0 0 → RW g C S m A 141 41 [some (.ref m), some (.int (iI 0))] [] w1 Q))  :
    RW g C S m A 141 34 [some (.ref m), l1] [] v Q := by
  refine qv_R (fun hvv => ?_)
  refine qv_g (pc' := 35) (ls' := [some (.ref m), l1]) (st' := [.ref m]) dX7_run_34 (fun _ _ => rfl) ?_
  refine qv_ic dX7_run_35 ?_
  refine qv_putI dX7_run_36 rfl rfl (Or.inl rfl) rfl (Or.inl rfl) (by decide) ?_
  generalize ew1 : uv v 32 0 0 = w1
  replace h := h _ ew1.symm
  refine qv_R (fun hvw1 => ?_)
  refine qv_ic dX7_run_39 ?_
  refine qv_g (pc' := 41) (ls' := [some (.ref m), some (.int (iI 0))]) (st' := []) dX7_run_40 (fun _ _ => rfl) ?_
  exact h
theorem v141_41 {v : VS} {Q : Rs → VS → Prop} {x1 : Int}
    (h : (v 25 0 ≤ x1 → (∀ w1, w1 = uv v 24 0 1 → Q (Sum.inl (some (.int (iI (w1 25 0))))) w1)) ∧ (x1 < v 25 0 → RW g C S m A 138 0 [some (.ref m), some (.int (iI x1)), none, none] [] v (VK g C S m A 141 54 [some (.ref m), some (.int (iI x1))] [] Q))) (hx1 : (-2147483648 : Int) ≤ x1 ∧ x1 ≤ 2147483647 := by omega) :
    RW g C S m A 141 41 [some (.ref m), some (.int (iI x1))] [] v Q := by
  refine qv_R (fun hvv => ?_)
  refine qv_g (pc' := 42) (ls' := [some (.ref m), some (.int (iI x1))]) (st' := [.int (iI x1)]) dX7_run_41 (fun _ _ => rfl) ?_
  refine qv_g (pc' := 43) (ls' := [some (.ref m), some (.int (iI x1))]) (st' := [.ref m, .int (iI x1)]) dX7_run_42 (fun _ _ => rfl) ?_
  refine qv_getI dX7_run_43 rfl rfl rfl ?_
  obtain ⟨h1, h2⟩ := h
  refine qv_icmp (t := 70) dX7_run_46 (by decide) (d_ge hx1 (hvv _ _)) (fun c => ?_) (fun c => ?_)
  · have h := h1 c
    refine qv_g (pc' := 71) (ls' := [some (.ref m), some (.int (iI x1))]) (st' := [.ref m]) dX7_run_70 (fun _ _ => rfl) ?_
    refine qv_ic dX7_run_71 ?_
    refine qv_putI dX7_run_72 rfl rfl (Or.inl rfl) rfl (Or.inr (Or.inr rfl)) (by decide) ?_
    generalize ew1 : uv v 24 0 1 = w1
    replace h := h _ ew1.symm
    refine qv_R (fun hvw1 => ?_)
    refine qv_g (pc' := 76) (ls' := [some (.ref m), some (.int (iI x1))]) (st' := [.ref m]) dX7_run_75 (fun _ _ => rfl) ?_
    refine qv_getI dX7_run_76 rfl rfl rfl ?_
    exact qv_ret dX7_run_79 rfl h
  · have h := h2 (Int.not_le.mp c)
    refine qv_g (pc' := 50) (ls' := [some (.ref m), some (.int (iI x1))]) (st' := [.ref m]) dX7_run_49 (fun _ _ => rfl) ?_
    refine qv_g (pc' := 51) (ls' := [some (.ref m), some (.int (iI x1))]) (st' := [.int (iI x1), .ref m]) dX7_run_50 (fun _ _ => rfl) ?_
    exact qv_call dX7_run_51 (fun _ _ => ex_calV rfl (by decide)) rfl (Nat.le_of_ble_eq_true rfl) (Nat.le_of_ble_eq_true rfl) (Nat.le_of_ble_eq_true rfl) (fun _ hm => rcv0 rfl rfl (by decide) hm) rfl rfl rfl h
theorem v141_54 {v : VS} {Q : Rs → VS → Prop} {x1 : Int}
    (h : ((0 : Int) ≤ x1 ∧ (x1 : Int) < 24) ∧ RW g C S m A 140 0 [some (.ref m), some (.int (iI (v 26 x1))), none] [] v (VK g C S m A 141 64 [some (.ref m), some (.int (iI x1))] [] Q)) (hx1 : (-2147483648 : Int) ≤ x1 ∧ x1 ≤ 2147483647 := by omega) :
    RW g C S m A 141 54 [some (.ref m), some (.int (iI x1))] [] v Q := by
  refine qv_R (fun hvv => ?_)
  refine qv_g (pc' := 55) (ls' := [some (.ref m), some (.int (iI x1))]) (st' := [.ref m]) dX7_run_54 (fun _ _ => rfl) ?_
  refine qv_g (pc' := 56) (ls' := [some (.ref m), some (.int (iI x1))]) (st' := [.ref m, .ref m]) dX7_run_55 (fun _ _ => rfl) ?_
  refine qv_getA dX7_run_56 rfl rfl (by decide) ?_
  refine qv_g (pc' := 60) (ls' := [some (.ref m), some (.int (iI x1))]) (st' := [.int (iI x1), .ref (A 26), .ref m]) dX7_run_59 (fun _ _ => rfl) ?_
  obtain ⟨hr1, h⟩ := h
  refine qv_iald dX7_run_60 (by decide) hr1 (by decide) ?_
  exact qv_call dX7_run_61 (fun _ _ => ex_calV rfl (by decide)) rfl (Nat.le_of_ble_eq_true rfl) (Nat.le_of_ble_eq_true rfl) (Nat.le_of_ble_eq_true rfl) (fun _ hm => rcv0 rfl rfl (by decide) hm) rfl rfl rfl h
theorem v141_64 {v : VS} {Q : Rs → VS → Prop} {x1 : Int}
    (h : ((-2147483648 : Int) ≤ x1 + 1 ∧ x1 + 1 ≤ 2147483647) ∧ RW g C S m A 141 41 [some (.ref m), some (.int (iI (x1 + 1)))] [] v Q) (hx1 : (-2147483648 : Int) ≤ x1 ∧ x1 ≤ 2147483647 := by omega) :
    RW g C S m A 141 64 [some (.ref m), some (.int (iI x1))] [] v Q := by
  refine qv_R (fun hvv => ?_)
  obtain ⟨hr1, h⟩ := h
  refine qv_inc (ls' := [some (.ref m), some (.int (iI (x1 + 1)))]) dX7_run_64 rfl (Nat.le_of_ble_eq_true rfl) rfl ?_
  refine qv_goto (t := 41) dX7_run_67 (by decide) ?_
  exact h
theorem v142_0 {v : VS} {Q : Rs → VS → Prop} {x1 : Int}
    (h : (x1 < 0 → RW g C S m A 142 16 [some (.ref m), some (.int (iI x1))] [] v Q) ∧ (0 ≤ x1 → (v 25 0 ≤ x1 → RW g C S m A 142 16 [some (.ref m), some (.int (iI x1))] [] v Q) ∧ (x1 < v 25 0 → RW g C S m A 142 17 [some (.ref m), some (.int (iI x1))] [.int (iI 1)] v Q))) (hx1 : (-2147483648 : Int) ≤ x1 ∧ x1 ≤ 2147483647 := by omega) :
    RW g C S m A 142 0 [some (.ref m), some (.int (iI x1))] [] v Q := by
  refine qv_R (fun hvv => ?_)
  refine qv_g (pc' := 1) (ls' := [some (.ref m), some (.int (iI x1))]) (st' := [.int (iI x1)]) dX7_isRow_0 (fun _ _ => rfl) ?_
  obtain ⟨h1, h2⟩ := h
  refine qv_if (t := 16) dX7_isRow_1 (by decide) (d_lt hx1 (by decide)) (fun c => ?_) (fun c => ?_)
  · have h := h1 c
    exact h
  · have h := h2 (Int.not_lt.mp c)
    refine qv_g (pc' := 5) (ls' := [some (.ref m), some (.int (iI x1))]) (st' := [.int (iI x1)]) dX7_isRow_4 (fun _ _ => rfl) ?_
    refine qv_g (pc' := 6) (ls' := [some (.ref m), some (.int (iI x1))]) (st' := [.ref m, .int (iI x1)]) dX7_isRow_5 (fun _ _ => rfl) ?_
    refine qv_getI dX7_isRow_6 rfl rfl rfl ?_
    obtain ⟨h1, h2⟩ := h
    refine qv_icmp (t := 16) dX7_isRow_9 (by decide) (d_ge hx1 (hvv _ _)) (fun c => ?_) (fun c => ?_)
    · have h := h1 c
      exact h
    · have h := h2 (Int.not_le.mp c)
      refine qv_ic dX7_isRow_12 ?_
      refine qv_goto (t := 17) dX7_isRow_13 (by decide) ?_
      exact h
theorem v142_16 {v : VS} {Q : Rs → VS → Prop} {l0 : Option Value} {l1 : Option Value}
    (h : RW g C S m A 142 17 [l0, l1] [.int (iI 0)] v Q)  :
    RW g C S m A 142 16 [l0, l1] [] v Q := by
  refine qv_R (fun hvv => ?_)
  refine qv_ic dX7_isRow_16 ?_
  exact h
theorem v142_17 {v : VS} {Q : Rs → VS → Prop} {l0 : Option Value} {l1 : Option Value} {u0 : Int}
    (h : (u0 = 0 ∨ u0 = 1) ∧ Q (Sum.inl (some (.int (iI u0)))) v) (hu0 : (-2147483648 : Int) ≤ u0 ∧ u0 ≤ 2147483647 := by omega) :
    RW g C S m A 142 17 [l0, l1] [.int (iI u0)] v Q := by
  refine qv_R (fun hvv => ?_)
  obtain ⟨hn, h⟩ := h
  exact qv_ret dX7_isRow_17 (by rcases hn with q | q <;> rw [q] <;> rfl) h
theorem v143_0 {v : VS} {Q : Rs → VS → Prop} {x1 : Int}
    (h : RW g C S m A 142 0 [some (.ref m), some (.int (iI x1))] [] v (VK g C S m A 143 6 [some (.ref m), some (.int (iI x1))] [.ref m] Q)) (hx1 : (-2147483648 : Int) ≤ x1 ∧ x1 ≤ 2147483647 := by omega) :
    RW g C S m A 143 0 [some (.ref m), some (.int (iI x1))] [] v Q := by
  refine qv_R (fun hvv => ?_)
  refine qv_g (pc' := 1) (ls' := [some (.ref m), some (.int (iI x1))]) (st' := [.ref m]) dX7_row_0 (fun _ _ => rfl) ?_
  refine qv_g (pc' := 2) (ls' := [some (.ref m), some (.int (iI x1))]) (st' := [.ref m, .ref m]) dX7_row_1 (fun _ _ => rfl) ?_
  refine qv_g (pc' := 3) (ls' := [some (.ref m), some (.int (iI x1))]) (st' := [.int (iI x1), .ref m, .ref m]) dX7_row_2 (fun _ _ => rfl) ?_
  exact qv_call dX7_row_3 (fun _ _ => ex_calV rfl (by decide)) rfl (Nat.le_of_ble_eq_true rfl) (Nat.le_of_ble_eq_true rfl) (Nat.le_of_ble_eq_true rfl) (fun _ hm => rcv0 rfl rfl (by decide) hm) rfl rfl rfl h
theorem v143_6 {v : VS} {Q : Rs → VS → Prop} {x1 : Int} {u0 : Int}
    (h : (u0 = 0 → RW g C S m A 143 14 [some (.ref m), some (.int (iI x1))] [.int (iI 1), .ref m] v Q) ∧ (¬ u0 = 0 → RW g C S m A 143 14 [some (.ref m), some (.int (iI x1))] [.int (iI 0), .ref m] v Q)) (hx1 : (-2147483648 : Int) ≤ x1 ∧ x1 ≤ 2147483647 := by omega) (hu0 : (-2147483648 : Int) ≤ u0 ∧ u0 ≤ 2147483647 := by omega) :
    RW g C S m A 143 6 [some (.ref m), some (.int (iI x1))] [.int (iI u0), .ref m] v Q := by
  refine qv_R (fun hvv => ?_)
  obtain ⟨h1, h2⟩ := h
  refine qv_if (t := 13) dX7_row_6 (by decide) (d_eq hu0 (by decide)) (fun c => ?_) (fun c => ?_)
  · have h := h1 c
    refine qv_ic dX7_row_13 ?_
    exact h
  · have h := h2 c
    refine qv_ic dX7_row_9 ?_
    refine qv_goto (t := 14) dX7_row_10 (by decide) ?_
    exact h
theorem v143_14 {v : VS} {Q : Rs → VS → Prop} {x1 : Int} {u0 : Int}
    (h : (∀ w1, w1 = uv v 0 0 u0 → (w1 0 0 ≤ 0 → ((0 : Int) ≤ x1 ∧ (x1 : Int) < 24) ∧ RW g C S m A 143 34 [some (.ref m), some (.int (iI x1))] [.int (iI (w1 26 x1))] w1 Q) ∧ (0 < w1 0 0 → RW g C S m A 143 34 [some (.ref m), some (.int (iI x1))] [.int (iI 0)] w1 Q))) (hx1 : (-2147483648 : Int) ≤ x1 ∧ x1 ≤ 2147483647 := by omega) (hu0 : (-2147483648 : Int) ≤ u0 ∧ u0 ≤ 2147483647 := by omega) :
    RW g C S m A 143 14 [some (.ref m), some (.int (iI x1))] [.int (iI u0), .ref m] v Q := by
  refine qv_R (fun hvv => ?_)
  refine qv_putI dX7_row_14 rfl rfl (Or.inl rfl) rfl (Or.inl rfl) hu0 ?_
  generalize ew1 : uv v 0 0 u0 = w1
  replace h := h _ ew1.symm
  refine qv_R (fun hvw1 => ?_)
  refine qv_g (pc' := 18) (ls' := [some (.ref m), some (.int (iI x1))]) (st' := [.ref m]) dX7_row_17 (fun _ _ => rfl) ?_
  refine qv_getI dX7_row_18 rfl rfl rfl ?_
  obtain ⟨h1, h2⟩ := h
  refine qv_if (t := 28) dX7_row_21 (by decide) (d_le (hvw1 _ _) (by decide)) (fun c => ?_) (fun c => ?_)
  · have h := h1 c
    refine qv_g (pc' := 29) (ls' := [some (.ref m), some (.int (iI x1))]) (st' := [.ref m]) dX7_row_28 (fun _ _ => rfl) ?_
    refine qv_getA dX7_row_29 rfl rfl (by decide) ?_
    refine qv_g (pc' := 33) (ls' := [some (.ref m), some (.int (iI x1))]) (st' := [.int (iI x1), .ref (A 26)]) dX7_row_32 (fun _ _ => rfl) ?_
    obtain ⟨hr2, h⟩ := h
    refine qv_iald dX7_row_33 (by decide) hr2 (by decide) ?_
    exact h
  · have h := h2 (Int.not_le.mp c)
    refine qv_ic dX7_row_24 ?_
    refine qv_goto (t := 34) dX7_row_25 (by decide) ?_
    exact h
theorem v143_34 {v : VS} {Q : Rs → VS → Prop} {l0 : Option Value} {l1 : Option Value} {u0 : Int}
    (h : Q (Sum.inl (some (.int (iI u0)))) v) (hu0 : (-2147483648 : Int) ≤ u0 ∧ u0 ≤ 2147483647 := by omega) :
    RW g C S m A 143 34 [l0, l1] [.int (iI u0)] v Q := by
  refine qv_R (fun hvv => ?_)
  exact qv_ret dX7_row_34 rfl h
theorem v144_0 {v : VS} {Q : Rs → VS → Prop} {x1 : Int}
    (h : RW g C S m A 142 0 [some (.ref m), some (.int (iI x1))] [] v (VK g C S m A 144 6 [some (.ref m), some (.int (iI x1))] [.ref m] Q)) (hx1 : (-2147483648 : Int) ≤ x1 ∧ x1 ≤ 2147483647 := by omega) :
    RW g C S m A 144 0 [some (.ref m), some (.int (iI x1))] [] v Q := by
  refine qv_R (fun hvv => ?_)
  refine qv_g (pc' := 1) (ls' := [some (.ref m), some (.int (iI x1))]) (st' := [.ref m]) dX7_letter_0 (fun _ _ => rfl) ?_
  refine qv_g (pc' := 2) (ls' := [some (.ref m), some (.int (iI x1))]) (st' := [.ref m, .ref m]) dX7_letter_1 (fun _ _ => rfl) ?_
  refine qv_g (pc' := 3) (ls' := [some (.ref m), some (.int (iI x1))]) (st' := [.int (iI x1), .ref m, .ref m]) dX7_letter_2 (fun _ _ => rfl) ?_
  exact qv_call dX7_letter_3 (fun _ _ => ex_calV rfl (by decide)) rfl (Nat.le_of_ble_eq_true rfl) (Nat.le_of_ble_eq_true rfl) (Nat.le_of_ble_eq_true rfl) (fun _ hm => rcv0 rfl rfl (by decide) hm) rfl rfl rfl h
theorem v144_6 {v : VS} {Q : Rs → VS → Prop} {x1 : Int} {u0 : Int}
    (h : (u0 = 0 → RW g C S m A 144 14 [some (.ref m), some (.int (iI x1))] [.int (iI 1), .ref m] v Q) ∧ (¬ u0 = 0 → RW g C S m A 144 14 [some (.ref m), some (.int (iI x1))] [.int (iI 0), .ref m] v Q)) (hx1 : (-2147483648 : Int) ≤ x1 ∧ x1 ≤ 2147483647 := by omega) (hu0 : (-2147483648 : Int) ≤ u0 ∧ u0 ≤ 2147483647 := by omega) :
    RW g C S m A 144 6 [some (.ref m), some (.int (iI x1))] [.int (iI u0), .ref m] v Q := by
  refine qv_R (fun hvv => ?_)
  obtain ⟨h1, h2⟩ := h
  refine qv_if (t := 13) dX7_letter_6 (by decide) (d_eq hu0 (by decide)) (fun c => ?_) (fun c => ?_)
  · have h := h1 c
    refine qv_ic dX7_letter_13 ?_
    exact h
  · have h := h2 c
    refine qv_ic dX7_letter_9 ?_
    refine qv_goto (t := 14) dX7_letter_10 (by decide) ?_
    exact h
theorem v144_14 {v : VS} {Q : Rs → VS → Prop} {x1 : Int} {u0 : Int}
    (h : (∀ w1, w1 = uv v 0 0 u0 → (w1 0 0 ≤ 0 → ((0 : Int) ≤ x1 ∧ (x1 : Int) < 24) ∧ RW g C S m A 144 34 [some (.ref m), some (.int (iI x1))] [.int (iI (w1 27 x1))] w1 Q) ∧ (0 < w1 0 0 → RW g C S m A 144 34 [some (.ref m), some (.int (iI x1))] [.int (iI 0)] w1 Q))) (hx1 : (-2147483648 : Int) ≤ x1 ∧ x1 ≤ 2147483647 := by omega) (hu0 : (-2147483648 : Int) ≤ u0 ∧ u0 ≤ 2147483647 := by omega) :
    RW g C S m A 144 14 [some (.ref m), some (.int (iI x1))] [.int (iI u0), .ref m] v Q := by
  refine qv_R (fun hvv => ?_)
  refine qv_putI dX7_letter_14 rfl rfl (Or.inl rfl) rfl (Or.inl rfl) hu0 ?_
  generalize ew1 : uv v 0 0 u0 = w1
  replace h := h _ ew1.symm
  refine qv_R (fun hvw1 => ?_)
  refine qv_g (pc' := 18) (ls' := [some (.ref m), some (.int (iI x1))]) (st' := [.ref m]) dX7_letter_17 (fun _ _ => rfl) ?_
  refine qv_getI dX7_letter_18 rfl rfl rfl ?_
  obtain ⟨h1, h2⟩ := h
  refine qv_if (t := 28) dX7_letter_21 (by decide) (d_le (hvw1 _ _) (by decide)) (fun c => ?_) (fun c => ?_)
  · have h := h1 c
    refine qv_g (pc' := 29) (ls' := [some (.ref m), some (.int (iI x1))]) (st' := [.ref m]) dX7_letter_28 (fun _ _ => rfl) ?_
    refine qv_getA dX7_letter_29 rfl rfl (by decide) ?_
    refine qv_g (pc' := 33) (ls' := [some (.ref m), some (.int (iI x1))]) (st' := [.int (iI x1), .ref (A 27)]) dX7_letter_32 (fun _ _ => rfl) ?_
    obtain ⟨hr2, h⟩ := h
    refine qv_iald dX7_letter_33 (by decide) hr2 (by decide) ?_
    exact h
  · have h := h2 (Int.not_le.mp c)
    refine qv_ic dX7_letter_24 ?_
    refine qv_goto (t := 34) dX7_letter_25 (by decide) ?_
    exact h
theorem v144_34 {v : VS} {Q : Rs → VS → Prop} {l0 : Option Value} {l1 : Option Value} {u0 : Int}
    (h : Q (Sum.inl (some (.int (iI u0)))) v) (hu0 : (-2147483648 : Int) ≤ u0 ∧ u0 ≤ 2147483647 := by omega) :
    RW g C S m A 144 34 [l0, l1] [.int (iI u0)] v Q := by
  refine qv_R (fun hvv => ?_)
  exact qv_ret dX7_letter_34 rfl h
theorem v145_0 {v : VS} {Q : Rs → VS → Prop} {x1 : Int} {x2 : Int} {x3 : Int}
    (h : RW g C S m A 93 0 [some (.ref m), some (.int (iI x1))] [] v (VK g C S m A 145 6 [some (.ref m), some (.int (iI x1)), some (.int (iI x2)), some (.int (iI x3))] [.ref m] Q)) (hx1 : (-2147483648 : Int) ≤ x1 ∧ x1 ≤ 2147483647 := by omega) (hx2 : (-2147483648 : Int) ≤ x2 ∧ x2 ≤ 2147483647 := by omega) (hx3 : (-2147483648 : Int) ≤ x3 ∧ x3 ≤ 2147483647 := by omega) :
    RW g C S m A 145 0 [some (.ref m), some (.int (iI x1)), some (.int (iI x2)), some (.int (iI x3))] [] v Q := by
  refine qv_R (fun hvv => ?_)
  refine qv_g (pc' := 1) (ls' := [some (.ref m), some (.int (iI x1)), some (.int (iI x2)), some (.int (iI x3))]) (st' := [.ref m]) dX7_initials_0 (fun _ _ => rfl) ?_
  refine qv_g (pc' := 2) (ls' := [some (.ref m), some (.int (iI x1)), some (.int (iI x2)), some (.int (iI x3))]) (st' := [.ref m, .ref m]) dX7_initials_1 (fun _ _ => rfl) ?_
  refine qv_g (pc' := 3) (ls' := [some (.ref m), some (.int (iI x1)), some (.int (iI x2)), some (.int (iI x3))]) (st' := [.int (iI x1), .ref m, .ref m]) dX7_initials_2 (fun _ _ => rfl) ?_
  exact qv_call dX7_initials_3 (fun _ _ => ex_calV rfl (by decide)) rfl (Nat.le_of_ble_eq_true rfl) (Nat.le_of_ble_eq_true rfl) (Nat.le_of_ble_eq_true rfl) (fun _ hm => rcv0 rfl rfl (by decide) hm) rfl rfl rfl h
theorem v145_6 {v : VS} {Q : Rs → VS → Prop} {x1 : Int} {x2 : Int} {x3 : Int} {u0 : Int}
    (h : (u0 = 0 → RW g C S m A 145 14 [some (.ref m), some (.int (iI x1)), some (.int (iI x2)), some (.int (iI x3))] [.int (iI 1), .ref m] v Q) ∧ (¬ u0 = 0 → RW g C S m A 145 14 [some (.ref m), some (.int (iI x1)), some (.int (iI x2)), some (.int (iI x3))] [.int (iI 0), .ref m] v Q)) (hx1 : (-2147483648 : Int) ≤ x1 ∧ x1 ≤ 2147483647 := by omega) (hx2 : (-2147483648 : Int) ≤ x2 ∧ x2 ≤ 2147483647 := by omega) (hx3 : (-2147483648 : Int) ≤ x3 ∧ x3 ≤ 2147483647 := by omega) (hu0 : (-2147483648 : Int) ≤ u0 ∧ u0 ≤ 2147483647 := by omega) :
    RW g C S m A 145 6 [some (.ref m), some (.int (iI x1)), some (.int (iI x2)), some (.int (iI x3))] [.int (iI u0), .ref m] v Q := by
  refine qv_R (fun hvv => ?_)
  obtain ⟨h1, h2⟩ := h
  refine qv_if (t := 13) dX7_initials_6 (by decide) (d_eq hu0 (by decide)) (fun c => ?_) (fun c => ?_)
  · have h := h1 c
    refine qv_ic dX7_initials_13 ?_
    exact h
  · have h := h2 c
    refine qv_ic dX7_initials_9 ?_
    refine qv_goto (t := 14) dX7_initials_10 (by decide) ?_
    exact h
theorem v145_14 {v : VS} {Q : Rs → VS → Prop} {x1 : Int} {x2 : Int} {x3 : Int} {u0 : Int}
    (h : (∀ w1, w1 = uv v 0 0 u0 → (w1 0 0 ≤ 0 → RW g C S m A 110 0 [some (.ref m), some (.int (iI 0)), some (.int (iI x1)), none, none, none, none, none, none, none, none, none, none, none] [] w1 (VK g C S m A 145 32 [some (.ref m), some (.int (iI x1)), some (.int (iI x2)), some (.int (iI x3))] [] Q)) ∧ (0 < w1 0 0 → Q (Sum.inl (some (.int (iI 0)))) w1))) (hx1 : (-2147483648 : Int) ≤ x1 ∧ x1 ≤ 2147483647 := by omega) (hx2 : (-2147483648 : Int) ≤ x2 ∧ x2 ≤ 2147483647 := by omega) (hx3 : (-2147483648 : Int) ≤ x3 ∧ x3 ≤ 2147483647 := by omega) (hu0 : (-2147483648 : Int) ≤ u0 ∧ u0 ≤ 2147483647 := by omega) :
    RW g C S m A 145 14 [some (.ref m), some (.int (iI x1)), some (.int (iI x2)), some (.int (iI x3))] [.int (iI u0), .ref m] v Q := by
  refine qv_R (fun hvv => ?_)
  refine qv_putI dX7_initials_14 rfl rfl (Or.inl rfl) rfl (Or.inl rfl) hu0 ?_
  generalize ew1 : uv v 0 0 u0 = w1
  replace h := h _ ew1.symm
  refine qv_R (fun hvw1 => ?_)
  refine qv_g (pc' := 18) (ls' := [some (.ref m), some (.int (iI x1)), some (.int (iI x2)), some (.int (iI x3))]) (st' := [.ref m]) dX7_initials_17 (fun _ _ => rfl) ?_
  refine qv_getI dX7_initials_18 rfl rfl rfl ?_
  obtain ⟨h1, h2⟩ := h
  refine qv_if (t := 26) dX7_initials_21 (by decide) (d_le (hvw1 _ _) (by decide)) (fun c => ?_) (fun c => ?_)
  · have h := h1 c
    refine qv_g (pc' := 27) (ls' := [some (.ref m), some (.int (iI x1)), some (.int (iI x2)), some (.int (iI x3))]) (st' := [.ref m]) dX7_initials_26 (fun _ _ => rfl) ?_
    refine qv_ic dX7_initials_27 ?_
    refine qv_g (pc' := 29) (ls' := [some (.ref m), some (.int (iI x1)), some (.int (iI x2)), some (.int (iI x3))]) (st' := [.int (iI x1), .int (iI 0), .ref m]) dX7_initials_28 (fun _ _ => rfl) ?_
    exact qv_call dX7_initials_29 (fun _ _ => ex_calV rfl (by decide)) rfl (Nat.le_of_ble_eq_true rfl) (Nat.le_of_ble_eq_true rfl) (Nat.le_of_ble_eq_true rfl) (fun _ hm => rcv0 rfl rfl (by decide) hm) rfl rfl rfl h
  · have h := h2 (Int.not_le.mp c)
    refine qv_ic dX7_initials_24 ?_
    exact qv_ret dX7_initials_25 rfl h
theorem v145_32 {v : VS} {Q : Rs → VS → Prop} {l1 : Option Value} {x2 : Int} {x3 : Int}
    (h : (x2 < 0 → RW g C S m A 145 47 [some (.ref m), l1, some (.int (iI x2)), some (.int (iI x3))] [.ref m] v Q) ∧ (0 ≤ x2 → ((0 : Int) ≤ 0 ∧ (0 : Int) < 2) ∧ (x2 < v 19 0 → RW g C S m A 145 52 [some (.ref m), l1, some (.int (iI x2)), some (.int (iI x3))] [.int (iI 0), .ref m] v Q) ∧ (v 19 0 ≤ x2 → RW g C S m A 145 47 [some (.ref m), l1, some (.int (iI x2)), some (.int (iI x3))] [.ref m] v Q))) (hx2 : (-2147483648 : Int) ≤ x2 ∧ x2 ≤ 2147483647 := by omega) (hx3 : (-2147483648 : Int) ≤ x3 ∧ x3 ≤ 2147483647 := by omega) :
    RW g C S m A 145 32 [some (.ref m), l1, some (.int (iI x2)), some (.int (iI x3))] [] v Q := by
  refine qv_R (fun hvv => ?_)
  refine qv_g (pc' := 33) (ls' := [some (.ref m), l1, some (.int (iI x2)), some (.int (iI x3))]) (st' := [.ref m]) dX7_initials_32 (fun _ _ => rfl) ?_
  refine qv_g (pc' := 34) (ls' := [some (.ref m), l1, some (.int (iI x2)), some (.int (iI x3))]) (st' := [.int (iI x2), .ref m]) dX7_initials_33 (fun _ _ => rfl) ?_
  obtain ⟨h1, h2⟩ := h
  refine qv_if (t := 47) dX7_initials_34 (by decide) (d_lt hx2 (by decide)) (fun c => ?_) (fun c => ?_)
  · have h := h1 c
    exact h
  · have h := h2 (Int.not_lt.mp c)
    refine qv_g (pc' := 38) (ls' := [some (.ref m), l1, some (.int (iI x2)), some (.int (iI x3))]) (st' := [.int (iI x2), .ref m]) dX7_initials_37 (fun _ _ => rfl) ?_
    refine qv_g (pc' := 39) (ls' := [some (.ref m), l1, some (.int (iI x2)), some (.int (iI x3))]) (st' := [.ref m, .int (iI x2), .ref m]) dX7_initials_38 (fun _ _ => rfl) ?_
    refine qv_getA dX7_initials_39 rfl rfl (by decide) ?_
    refine qv_ic dX7_initials_42 ?_
    obtain ⟨hr1, h⟩ := h
    refine qv_iald dX7_initials_43 (by decide) hr1 (by decide) ?_
    obtain ⟨h1, h2⟩ := h
    refine qv_icmp (t := 51) dX7_initials_44 (by decide) (d_lt hx2 (hvv _ _)) (fun c => ?_) (fun c => ?_)
    · have h := h1 c
      refine qv_ic dX7_initials_51 ?_
      exact h
    · have h := h2 (Int.not_lt.mp c)
      exact h
theorem v145_47 {v : VS} {Q : Rs → VS → Prop} {l1 : Option Value} {x2 : Int} {x3 : Int}
    (h : RW g C S m A 145 52 [some (.ref m), l1, some (.int (iI x2)), some (.int (iI x3))] [.int (iI 2), .ref m] v Q) (hx2 : (-2147483648 : Int) ≤ x2 ∧ x2 ≤ 2147483647 := by omega) (hx3 : (-2147483648 : Int) ≤ x3 ∧ x3 ≤ 2147483647 := by omega) :
    RW g C S m A 145 47 [some (.ref m), l1, some (.int (iI x2)), some (.int (iI x3))] [.ref m] v Q := by
  refine qv_R (fun hvv => ?_)
  refine qv_ic dX7_initials_47 ?_
  refine qv_goto (t := 52) dX7_initials_48 (by decide) ?_
  exact h
theorem v145_52 {v : VS} {Q : Rs → VS → Prop} {l1 : Option Value} {x2 : Int} {x3 : Int} {u0 : Int}
    (h : (∀ w1, w1 = uv v 0 0 u0 → (w1 0 0 ≤ 0 → (∀ w2, w2 = uv w1 21 0 0 → RW g C S m A 118 0 [some (.ref m), some (.int (iI 0)), some (.int (iI x2)), none, none] [] w2 (VK g C S m A 145 75 [some (.ref m), l1, some (.int (iI x2)), some (.int (iI x3))] [] Q))) ∧ (0 < w1 0 0 → Q (Sum.inl (some (.int (iI 0)))) w1))) (hx2 : (-2147483648 : Int) ≤ x2 ∧ x2 ≤ 2147483647 := by omega) (hx3 : (-2147483648 : Int) ≤ x3 ∧ x3 ≤ 2147483647 := by omega) (hu0 : (-2147483648 : Int) ≤ u0 ∧ u0 ≤ 2147483647 := by omega) :
    RW g C S m A 145 52 [some (.ref m), l1, some (.int (iI x2)), some (.int (iI x3))] [.int (iI u0), .ref m] v Q := by
  refine qv_R (fun hvv => ?_)
  refine qv_putI dX7_initials_52 rfl rfl (Or.inl rfl) rfl (Or.inl rfl) hu0 ?_
  generalize ew1 : uv v 0 0 u0 = w1
  replace h := h _ ew1.symm
  refine qv_R (fun hvw1 => ?_)
  refine qv_g (pc' := 56) (ls' := [some (.ref m), l1, some (.int (iI x2)), some (.int (iI x3))]) (st' := [.ref m]) dX7_initials_55 (fun _ _ => rfl) ?_
  refine qv_getI dX7_initials_56 rfl rfl rfl ?_
  obtain ⟨h1, h2⟩ := h
  refine qv_if (t := 64) dX7_initials_59 (by decide) (d_le (hvw1 _ _) (by decide)) (fun c => ?_) (fun c => ?_)
  · have h := h1 c
    refine qv_g (pc' := 65) (ls' := [some (.ref m), l1, some (.int (iI x2)), some (.int (iI x3))]) (st' := [.ref m]) dX7_initials_64 (fun _ _ => rfl) ?_
    refine qv_ic dX7_initials_65 ?_
    refine qv_putI dX7_initials_66 rfl rfl (Or.inl rfl) rfl (Or.inl rfl) (by decide) ?_
    generalize ew2 : uv w1 21 0 0 = w2
    replace h := h _ ew2.symm
    refine qv_R (fun hvw2 => ?_)
    refine qv_g (pc' := 70) (ls' := [some (.ref m), l1, some (.int (iI x2)), some (.int (iI x3))]) (st' := [.ref m]) dX7_initials_69 (fun _ _ => rfl) ?_
    refine qv_ic dX7_initials_70 ?_
    refine qv_g (pc' := 72) (ls' := [some (.ref m), l1, some (.int (iI x2)), some (.int (iI x3))]) (st' := [.int (iI x2), .int (iI 0), .ref m]) dX7_initials_71 (fun _ _ => rfl) ?_
    exact qv_call dX7_initials_72 (fun _ _ => ex_calV rfl (by decide)) rfl (Nat.le_of_ble_eq_true rfl) (Nat.le_of_ble_eq_true rfl) (Nat.le_of_ble_eq_true rfl) (fun _ hm => rcv0 rfl rfl (by decide) hm) rfl rfl rfl h
  · have h := h2 (Int.not_le.mp c)
    refine qv_ic dX7_initials_62 ?_
    exact qv_ret dX7_initials_63 rfl h
theorem v145_75 {v : VS} {Q : Rs → VS → Prop} {l1 : Option Value} {l2 : Option Value} {x3 : Int}
    (h : (x3 < (-1) → RW g C S m A 145 89 [some (.ref m), l1, l2, some (.int (iI x3))] [.ref m] v Q) ∧ ((-1) ≤ x3 → (x3 < v 21 0 → RW g C S m A 145 94 [some (.ref m), l1, l2, some (.int (iI x3))] [.int (iI 0), .ref m] v Q) ∧ (v 21 0 ≤ x3 → RW g C S m A 145 89 [some (.ref m), l1, l2, some (.int (iI x3))] [.ref m] v Q))) (hx3 : (-2147483648 : Int) ≤ x3 ∧ x3 ≤ 2147483647 := by omega) :
    RW g C S m A 145 75 [some (.ref m), l1, l2, some (.int (iI x3))] [] v Q := by
  refine qv_R (fun hvv => ?_)
  refine qv_g (pc' := 76) (ls' := [some (.ref m), l1, l2, some (.int (iI x3))]) (st' := [.ref m]) dX7_initials_75 (fun _ _ => rfl) ?_
  refine qv_g (pc' := 77) (ls' := [some (.ref m), l1, l2, some (.int (iI x3))]) (st' := [.int (iI x3), .ref m]) dX7_initials_76 (fun _ _ => rfl) ?_
  refine qv_ic dX7_initials_77 ?_
  obtain ⟨h1, h2⟩ := h
  refine qv_icmp (t := 89) dX7_initials_78 (by decide) (d_lt hx3 (by decide)) (fun c => ?_) (fun c => ?_)
  · have h := h1 c
    exact h
  · have h := h2 (Int.not_lt.mp c)
    refine qv_g (pc' := 82) (ls' := [some (.ref m), l1, l2, some (.int (iI x3))]) (st' := [.int (iI x3), .ref m]) dX7_initials_81 (fun _ _ => rfl) ?_
    refine qv_g (pc' := 83) (ls' := [some (.ref m), l1, l2, some (.int (iI x3))]) (st' := [.ref m, .int (iI x3), .ref m]) dX7_initials_82 (fun _ _ => rfl) ?_
    refine qv_getI dX7_initials_83 rfl rfl rfl ?_
    obtain ⟨h1, h2⟩ := h
    refine qv_icmp (t := 93) dX7_initials_86 (by decide) (d_lt hx3 (hvv _ _)) (fun c => ?_) (fun c => ?_)
    · have h := h1 c
      refine qv_ic dX7_initials_93 ?_
      exact h
    · have h := h2 (Int.not_lt.mp c)
      exact h
theorem v145_89 {v : VS} {Q : Rs → VS → Prop} {l1 : Option Value} {l2 : Option Value} {x3 : Int}
    (h : RW g C S m A 145 94 [some (.ref m), l1, l2, some (.int (iI x3))] [.int (iI 2), .ref m] v Q) (hx3 : (-2147483648 : Int) ≤ x3 ∧ x3 ≤ 2147483647 := by omega) :
    RW g C S m A 145 89 [some (.ref m), l1, l2, some (.int (iI x3))] [.ref m] v Q := by
  refine qv_R (fun hvv => ?_)
  refine qv_ic dX7_initials_89 ?_
  refine qv_goto (t := 94) dX7_initials_90 (by decide) ?_
  exact h
theorem v145_94 {v : VS} {Q : Rs → VS → Prop} {l1 : Option Value} {l2 : Option Value} {x3 : Int} {u0 : Int}
    (h : (∀ w1, w1 = uv v 0 0 u0 → (w1 0 0 ≤ 0 → (¬ x3 = (-1) → ((0 : Int) ≤ x3 ∧ (x3 : Int) < 1000) ∧ RW g C S m A 145 126 [some (.ref m), l1, l2, some (.int (iI x3))] [.int (iI (w1 20 x3))] w1 Q) ∧ (x3 = (-1) → RW g C S m A 145 126 [some (.ref m), l1, l2, some (.int (iI x3))] [.int (iI (w1 21 0))] w1 Q)) ∧ (0 < w1 0 0 → RW g C S m A 145 126 [some (.ref m), l1, l2, some (.int (iI x3))] [.int (iI 0)] w1 Q))) (hx3 : (-2147483648 : Int) ≤ x3 ∧ x3 ≤ 2147483647 := by omega) (hu0 : (-2147483648 : Int) ≤ u0 ∧ u0 ≤ 2147483647 := by omega) :
    RW g C S m A 145 94 [some (.ref m), l1, l2, some (.int (iI x3))] [.int (iI u0), .ref m] v Q := by
  refine qv_R (fun hvv => ?_)
  refine qv_putI dX7_initials_94 rfl rfl (Or.inl rfl) rfl (Or.inl rfl) hu0 ?_
  generalize ew1 : uv v 0 0 u0 = w1
  replace h := h _ ew1.symm
  refine qv_R (fun hvw1 => ?_)
  refine qv_g (pc' := 98) (ls' := [some (.ref m), l1, l2, some (.int (iI x3))]) (st' := [.ref m]) dX7_initials_97 (fun _ _ => rfl) ?_
  refine qv_getI dX7_initials_98 rfl rfl rfl ?_
  obtain ⟨h1, h2⟩ := h
  refine qv_if (t := 108) dX7_initials_101 (by decide) (d_le (hvw1 _ _) (by decide)) (fun c => ?_) (fun c => ?_)
  · have h := h1 c
    refine qv_g (pc' := 109) (ls' := [some (.ref m), l1, l2, some (.int (iI x3))]) (st' := [.int (iI x3)]) dX7_initials_108 (fun _ _ => rfl) ?_
    refine qv_ic dX7_initials_109 ?_
    obtain ⟨h1, h2⟩ := h
    refine qv_icmp (t := 120) dX7_initials_110 (by decide) (d_ne hx3 (by decide)) (fun c => ?_) (fun c => ?_)
    · have h := h1 c
      refine qv_g (pc' := 121) (ls' := [some (.ref m), l1, l2, some (.int (iI x3))]) (st' := [.ref m]) dX7_initials_120 (fun _ _ => rfl) ?_
      refine qv_getA dX7_initials_121 rfl rfl (by decide) ?_
      refine qv_g (pc' := 125) (ls' := [some (.ref m), l1, l2, some (.int (iI x3))]) (st' := [.int (iI x3), .ref (A 20)]) dX7_initials_124 (fun _ _ => rfl) ?_
      obtain ⟨hr2, h⟩ := h
      refine qv_iald dX7_initials_125 (by decide) hr2 (by decide) ?_
      exact h
    · have h := h2 (Decidable.of_not_not c)
      refine qv_g (pc' := 114) (ls' := [some (.ref m), l1, l2, some (.int (iI x3))]) (st' := [.ref m]) dX7_initials_113 (fun _ _ => rfl) ?_
      refine qv_getI dX7_initials_114 rfl rfl rfl ?_
      refine qv_goto (t := 126) dX7_initials_117 (by decide) ?_
      exact h
  · have h := h2 (Int.not_le.mp c)
    refine qv_ic dX7_initials_104 ?_
    refine qv_goto (t := 126) dX7_initials_105 (by decide) ?_
    exact h
theorem v145_126 {v : VS} {Q : Rs → VS → Prop} {l0 : Option Value} {l1 : Option Value} {l2 : Option Value} {l3 : Option Value} {u0 : Int}
    (h : Q (Sum.inl (some (.int (iI u0)))) v) (hu0 : (-2147483648 : Int) ≤ u0 ∧ u0 ≤ 2147483647 := by omega) :
    RW g C S m A 145 126 [l0, l1, l2, l3] [.int (iI u0)] v Q := by
  refine qv_R (fun hvv => ?_)
  exact qv_ret dX7_initials_126 rfl h
theorem v146_0 {v : VS} {Q : Rs → VS → Prop} {x1 : Int} {x2 : Int}
    (h : (∀ w1, w1 = uv v 0 0 0 → (¬ x1 = (-1) → (x1 < 0 → RW g C S m A 146 37 [some (.ref m), some (.int (iI x1)), some (.int (iI x2))] [.ref m] w1 Q) ∧ (0 ≤ x1 → (w1 32 0 ≤ x1 → RW g C S m A 146 37 [some (.ref m), some (.int (iI x1)), some (.int (iI x2))] [.ref m] w1 Q) ∧ (x1 < w1 32 0 → (x2 < 0 → RW g C S m A 146 37 [some (.ref m), some (.int (iI x1)), some (.int (iI x2))] [.ref m] w1 Q) ∧ (0 ≤ x2 → (x2 ≤ 1 → RW g C S m A 146 42 [some (.ref m), some (.int (iI x1)), some (.int (iI x2))] [.int (iI 0), .ref m] w1 Q) ∧ (1 < x2 → RW g C S m A 146 37 [some (.ref m), some (.int (iI x1)), some (.int (iI x2))] [.ref m] w1 Q))))) ∧ (x1 = (-1) → Q (Sum.inl (some (.int (iI (w1 32 0))))) w1))) (hx1 : (-2147483648 : Int) ≤ x1 ∧ x1 ≤ 2147483647 := by omega) (hx2 : (-2147483648 : Int) ≤ x2 ∧ x2 ≤ 2147483647 := by omega) :
    RW g C S m A 146 0 [some (.ref m), some (.int (iI x1)), some (.int (iI x2))] [] v Q := by
  refine qv_R (fun hvv => ?_)
  refine qv_g (pc' := 1) (ls' := [some (.ref m), some (.int (iI x1)), some (.int (iI x2))]) (st' := [.ref m]) dX7_missing_0 (fun _ _ => rfl) ?_
  refine qv_ic dX7_missing_1 ?_
  refine qv_putI dX7_missing_2 rfl rfl (Or.inl rfl) rfl (Or.inl rfl) (by decide) ?_
  generalize ew1 : uv v 0 0 0 = w1
  replace h := h _ ew1.symm
  refine qv_R (fun hvw1 => ?_)
  refine qv_g (pc' := 6) (ls' := [some (.ref m), some (.int (iI x1)), some (.int (iI x2))]) (st' := [.int (iI x1)]) dX7_missing_5 (fun _ _ => rfl) ?_
  refine qv_ic dX7_missing_6 ?_
  obtain ⟨h1, h2⟩ := h
  refine qv_icmp (t := 15) dX7_missing_7 (by decide) (d_ne hx1 (by decide)) (fun c => ?_) (fun c => ?_)
  · have h := h1 c
    refine qv_g (pc' := 16) (ls' := [some (.ref m), some (.int (iI x1)), some (.int (iI x2))]) (st' := [.ref m]) dX7_missing_15 (fun _ _ => rfl) ?_
    refine qv_g (pc' := 17) (ls' := [some (.ref m), some (.int (iI x1)), some (.int (iI x2))]) (st' := [.int (iI x1), .ref m]) dX7_missing_16 (fun _ _ => rfl) ?_
    obtain ⟨h1, h2⟩ := h
    refine qv_if (t := 37) dX7_missing_17 (by decide) (d_lt hx1 (by decide)) (fun c => ?_) (fun c => ?_)
    · have h := h1 c
      exact h
    · have h := h2 (Int.not_lt.mp c)
      refine qv_g (pc' := 21) (ls' := [some (.ref m), some (.int (iI x1)), some (.int (iI x2))]) (st' := [.int (iI x1), .ref m]) dX7_missing_20 (fun _ _ => rfl) ?_
      refine qv_g (pc' := 22) (ls' := [some (.ref m), some (.int (iI x1)), some (.int (iI x2))]) (st' := [.ref m, .int (iI x1), .ref m]) dX7_missing_21 (fun _ _ => rfl) ?_
      refine qv_getI dX7_missing_22 rfl rfl rfl ?_
      obtain ⟨h1, h2⟩ := h
      refine qv_icmp (t := 37) dX7_missing_25 (by decide) (d_ge hx1 (hvw1 _ _)) (fun c => ?_) (fun c => ?_)
      · have h := h1 c
        exact h
      · have h := h2 (Int.not_le.mp c)
        refine qv_g (pc' := 29) (ls' := [some (.ref m), some (.int (iI x1)), some (.int (iI x2))]) (st' := [.int (iI x2), .ref m]) dX7_missing_28 (fun _ _ => rfl) ?_
        obtain ⟨h1, h2⟩ := h
        refine qv_if (t := 37) dX7_missing_29 (by decide) (d_lt hx2 (by decide)) (fun c => ?_) (fun c => ?_)
        · have h := h1 c
          exact h
        · have h := h2 (Int.not_lt.mp c)
          refine qv_g (pc' := 33) (ls' := [some (.ref m), some (.int (iI x1)), some (.int (iI x2))]) (st' := [.int (iI x2), .ref m]) dX7_missing_32 (fun _ _ => rfl) ?_
          refine qv_ic dX7_missing_33 ?_
          obtain ⟨h1, h2⟩ := h
          refine qv_icmp (t := 41) dX7_missing_34 (by decide) (d_le hx2 (by decide)) (fun c => ?_) (fun c => ?_)
          · have h := h1 c
            refine qv_ic dX7_missing_41 ?_
            exact h
          · have h := h2 (Int.not_le.mp c)
            exact h
  · have h := h2 (Decidable.of_not_not c)
    refine qv_g (pc' := 11) (ls' := [some (.ref m), some (.int (iI x1)), some (.int (iI x2))]) (st' := [.ref m]) dX7_missing_10 (fun _ _ => rfl) ?_
    refine qv_getI dX7_missing_11 rfl rfl rfl ?_
    exact qv_ret dX7_missing_14 rfl h
theorem v146_37 {v : VS} {Q : Rs → VS → Prop} {x1 : Int} {x2 : Int}
    (h : RW g C S m A 146 42 [some (.ref m), some (.int (iI x1)), some (.int (iI x2))] [.int (iI 1), .ref m] v Q) (hx1 : (-2147483648 : Int) ≤ x1 ∧ x1 ≤ 2147483647 := by omega) (hx2 : (-2147483648 : Int) ≤ x2 ∧ x2 ≤ 2147483647 := by omega) :
    RW g C S m A 146 37 [some (.ref m), some (.int (iI x1)), some (.int (iI x2))] [.ref m] v Q := by
  refine qv_R (fun hvv => ?_)
  refine qv_ic dX7_missing_37 ?_
  refine qv_goto (t := 42) dX7_missing_38 (by decide) ?_
  exact h
theorem v146_42 {v : VS} {Q : Rs → VS → Prop} {x1 : Int} {x2 : Int} {u0 : Int}
    (h : (∀ w1, w1 = uv v 0 0 u0 → (w1 0 0 ≤ 0 → (¬ x2 = 0 → ((0 : Int) ≤ x1 ∧ (x1 : Int) < 96) ∧ RW g C S m A 146 75 [some (.ref m), some (.int (iI x1)), some (.int (iI x2))] [.int (iI (w1 34 x1))] w1 Q) ∧ (x2 = 0 → ((0 : Int) ≤ x1 ∧ (x1 : Int) < 96) ∧ RW g C S m A 146 75 [some (.ref m), some (.int (iI x1)), some (.int (iI x2))] [.int (iI (w1 33 x1))] w1 Q)) ∧ (0 < w1 0 0 → RW g C S m A 146 75 [some (.ref m), some (.int (iI x1)), some (.int (iI x2))] [.int (iI 0)] w1 Q))) (hx1 : (-2147483648 : Int) ≤ x1 ∧ x1 ≤ 2147483647 := by omega) (hx2 : (-2147483648 : Int) ≤ x2 ∧ x2 ≤ 2147483647 := by omega) (hu0 : (-2147483648 : Int) ≤ u0 ∧ u0 ≤ 2147483647 := by omega) :
    RW g C S m A 146 42 [some (.ref m), some (.int (iI x1)), some (.int (iI x2))] [.int (iI u0), .ref m] v Q := by
  refine qv_R (fun hvv => ?_)
  refine qv_putI dX7_missing_42 rfl rfl (Or.inl rfl) rfl (Or.inl rfl) hu0 ?_
  generalize ew1 : uv v 0 0 u0 = w1
  replace h := h _ ew1.symm
  refine qv_R (fun hvw1 => ?_)
  refine qv_g (pc' := 46) (ls' := [some (.ref m), some (.int (iI x1)), some (.int (iI x2))]) (st' := [.ref m]) dX7_missing_45 (fun _ _ => rfl) ?_
  refine qv_getI dX7_missing_46 rfl rfl rfl ?_
  obtain ⟨h1, h2⟩ := h
  refine qv_if (t := 56) dX7_missing_49 (by decide) (d_le (hvw1 _ _) (by decide)) (fun c => ?_) (fun c => ?_)
  · have h := h1 c
    refine qv_g (pc' := 57) (ls' := [some (.ref m), some (.int (iI x1)), some (.int (iI x2))]) (st' := [.int (iI x2)]) dX7_missing_56 (fun _ _ => rfl) ?_
    obtain ⟨h1, h2⟩ := h
    refine qv_if (t := 69) dX7_missing_57 (by decide) (d_ne hx2 (by decide)) (fun c => ?_) (fun c => ?_)
    · have h := h1 c
      refine qv_g (pc' := 70) (ls' := [some (.ref m), some (.int (iI x1)), some (.int (iI x2))]) (st' := [.ref m]) dX7_missing_69 (fun _ _ => rfl) ?_
      refine qv_getA dX7_missing_70 rfl rfl (by decide) ?_
      refine qv_g (pc' := 74) (ls' := [some (.ref m), some (.int (iI x1)), some (.int (iI x2))]) (st' := [.int (iI x1), .ref (A 34)]) dX7_missing_73 (fun _ _ => rfl) ?_
      obtain ⟨hr2, h⟩ := h
      refine qv_iald dX7_missing_74 (by decide) hr2 (by decide) ?_
      exact h
    · have h := h2 (Decidable.of_not_not c)
      refine qv_g (pc' := 61) (ls' := [some (.ref m), some (.int (iI x1)), some (.int (iI x2))]) (st' := [.ref m]) dX7_missing_60 (fun _ _ => rfl) ?_
      refine qv_getA dX7_missing_61 rfl rfl (by decide) ?_
      refine qv_g (pc' := 65) (ls' := [some (.ref m), some (.int (iI x1)), some (.int (iI x2))]) (st' := [.int (iI x1), .ref (A 33)]) dX7_missing_64 (fun _ _ => rfl) ?_
      obtain ⟨hr3, h⟩ := h
      refine qv_iald dX7_missing_65 (by decide) hr3 (by decide) ?_
      refine qv_goto (t := 75) dX7_missing_66 (by decide) ?_
      exact h
  · have h := h2 (Int.not_le.mp c)
    refine qv_ic dX7_missing_52 ?_
    refine qv_goto (t := 75) dX7_missing_53 (by decide) ?_
    exact h
theorem v146_75 {v : VS} {Q : Rs → VS → Prop} {l0 : Option Value} {l1 : Option Value} {l2 : Option Value} {u0 : Int}
    (h : Q (Sum.inl (some (.int (iI u0)))) v) (hu0 : (-2147483648 : Int) ≤ u0 ∧ u0 ≤ 2147483647 := by omega) :
    RW g C S m A 146 75 [l0, l1, l2] [.int (iI u0)] v Q := by
  refine qv_R (fun hvv => ?_)
  exact qv_ret dX7_missing_75 rfl h
theorem v147_0 {v : VS} {Q : Rs → VS → Prop} {x1 : Int} {l2 : Option Value}
    (h : (v 24 0 = 0 → RW g C S m A 147 25 [some (.ref m), some (.int (iI x1)), l2] [.ref m] v Q) ∧ (¬ v 24 0 = 0 → (x1 = (-1) → RW g C S m A 147 21 [some (.ref m), some (.int (iI x1)), l2] [.ref m] v Q) ∧ (¬ x1 = (-1) → RW g C S m A 142 0 [some (.ref m), some (.int (iI x1))] [] v (VK g C S m A 147 18 [some (.ref m), some (.int (iI x1)), l2] [.ref m] Q)))) (hx1 : (-2147483648 : Int) ≤ x1 ∧ x1 ≤ 2147483647 := by omega) :
    RW g C S m A 147 0 [some (.ref m), some (.int (iI x1)), l2] [] v Q := by
  refine qv_R (fun hvv => ?_)
  refine qv_g (pc' := 1) (ls' := [some (.ref m), some (.int (iI x1)), l2]) (st' := [.ref m]) dX7_print_0 (fun _ _ => rfl) ?_
  refine qv_g (pc' := 2) (ls' := [some (.ref m), some (.int (iI x1)), l2]) (st' := [.ref m, .ref m]) dX7_print_1 (fun _ _ => rfl) ?_
  refine qv_getI dX7_print_2 rfl rfl rfl ?_
  obtain ⟨h1, h2⟩ := h
  refine qv_if (t := 25) dX7_print_5 (by decide) (d_eq (hvv _ _) (by decide)) (fun c => ?_) (fun c => ?_)
  · have h := h1 c
    exact h
  · have h := h2 c
    refine qv_g (pc' := 9) (ls' := [some (.ref m), some (.int (iI x1)), l2]) (st' := [.int (iI x1), .ref m]) dX7_print_8 (fun _ _ => rfl) ?_
    refine qv_ic dX7_print_9 ?_
    obtain ⟨h1, h2⟩ := h
    refine qv_icmp (t := 21) dX7_print_10 (by decide) (d_eq hx1 (by decide)) (fun c => ?_) (fun c => ?_)
    · have h := h1 c
      exact h
    · have h := h2 c
      refine qv_g (pc' := 14) (ls' := [some (.ref m), some (.int (iI x1)), l2]) (st' := [.ref m, .ref m]) dX7_print_13 (fun _ _ => rfl) ?_
      refine qv_g (pc' := 15) (ls' := [some (.ref m), some (.int (iI x1)), l2]) (st' := [.int (iI x1), .ref m, .ref m]) dX7_print_14 (fun _ _ => rfl) ?_
      exact qv_call dX7_print_15 (fun _ _ => ex_calV rfl (by decide)) rfl (Nat.le_of_ble_eq_true rfl) (Nat.le_of_ble_eq_true rfl) (Nat.le_of_ble_eq_true rfl) (fun _ hm => rcv0 rfl rfl (by decide) hm) rfl rfl rfl h
theorem v147_18 {v : VS} {Q : Rs → VS → Prop} {x1 : Int} {l2 : Option Value} {u0 : Int}
    (h : (u0 = 0 → RW g C S m A 147 25 [some (.ref m), some (.int (iI x1)), l2] [.ref m] v Q) ∧ (¬ u0 = 0 → RW g C S m A 147 21 [some (.ref m), some (.int (iI x1)), l2] [.ref m] v Q)) (hx1 : (-2147483648 : Int) ≤ x1 ∧ x1 ≤ 2147483647 := by omega) (hu0 : (-2147483648 : Int) ≤ u0 ∧ u0 ≤ 2147483647 := by omega) :
    RW g C S m A 147 18 [some (.ref m), some (.int (iI x1)), l2] [.int (iI u0), .ref m] v Q := by
  refine qv_R (fun hvv => ?_)
  obtain ⟨h1, h2⟩ := h
  refine qv_if (t := 25) dX7_print_18 (by decide) (d_eq hu0 (by decide)) (fun c => ?_) (fun c => ?_)
  · have h := h1 c
    exact h
  · have h := h2 c
    exact h
theorem v147_21 {v : VS} {Q : Rs → VS → Prop} {x1 : Int} {l2 : Option Value}
    (h : RW g C S m A 147 26 [some (.ref m), some (.int (iI x1)), l2] [.int (iI 0), .ref m] v Q) (hx1 : (-2147483648 : Int) ≤ x1 ∧ x1 ≤ 2147483647 := by omega) :
    RW g C S m A 147 21 [some (.ref m), some (.int (iI x1)), l2] [.ref m] v Q := by
  refine qv_R (fun hvv => ?_)
  refine qv_ic dX7_print_21 ?_
  refine qv_goto (t := 26) dX7_print_22 (by decide) ?_
  exact h
theorem v147_25 {v : VS} {Q : Rs → VS → Prop} {x1 : Int} {l2 : Option Value}
    (h : RW g C S m A 147 26 [some (.ref m), some (.int (iI x1)), l2] [.int (iI 1), .ref m] v Q) (hx1 : (-2147483648 : Int) ≤ x1 ∧ x1 ≤ 2147483647 := by omega) :
    RW g C S m A 147 25 [some (.ref m), some (.int (iI x1)), l2] [.ref m] v Q := by
  refine qv_R (fun hvv => ?_)
  refine qv_ic dX7_print_25 ?_
  exact h
theorem v147_26 {v : VS} {Q : Rs → VS → Prop} {x1 : Int} {l2 : Option Value} {u0 : Int}
    (h : (∀ w1, w1 = uv v 0 0 u0 → (w1 0 0 ≤ 0 → (∀ w2, w2 = uv w1 21 0 0 → (¬ x1 = (-1) → RW g C S m A 147 76 [some (.ref m), some (.int (iI x1)), l2] [] w2 Q) ∧ (x1 = (-1) → RW g C S m A 112 0 [some (.ref m), some (.long (lI 111542001886546)), none, none, none] [] w2 (VK g C S m A 147 55 [some (.ref m), some (.int (iI x1)), l2] [] Q)))) ∧ (0 < w1 0 0 → Q (Sum.inl (some (.int (iI 0)))) w1))) (hx1 : (-2147483648 : Int) ≤ x1 ∧ x1 ≤ 2147483647 := by omega) (hu0 : (-2147483648 : Int) ≤ u0 ∧ u0 ≤ 2147483647 := by omega) :
    RW g C S m A 147 26 [some (.ref m), some (.int (iI x1)), l2] [.int (iI u0), .ref m] v Q := by
  refine qv_R (fun hvv => ?_)
  refine qv_putI dX7_print_26 rfl rfl (Or.inl rfl) rfl (Or.inl rfl) hu0 ?_
  generalize ew1 : uv v 0 0 u0 = w1
  replace h := h _ ew1.symm
  refine qv_R (fun hvw1 => ?_)
  refine qv_g (pc' := 30) (ls' := [some (.ref m), some (.int (iI x1)), l2]) (st' := [.ref m]) dX7_print_29 (fun _ _ => rfl) ?_
  refine qv_getI dX7_print_30 rfl rfl rfl ?_
  obtain ⟨h1, h2⟩ := h
  refine qv_if (t := 38) dX7_print_33 (by decide) (d_le (hvw1 _ _) (by decide)) (fun c => ?_) (fun c => ?_)
  · have h := h1 c
    refine qv_g (pc' := 39) (ls' := [some (.ref m), some (.int (iI x1)), l2]) (st' := [.ref m]) dX7_print_38 (fun _ _ => rfl) ?_
    refine qv_ic dX7_print_39 ?_
    refine qv_putI dX7_print_40 rfl rfl (Or.inl rfl) rfl (Or.inl rfl) (by decide) ?_
    generalize ew2 : uv w1 21 0 0 = w2
    replace h := h _ ew2.symm
    refine qv_R (fun hvw2 => ?_)
    refine qv_g (pc' := 44) (ls' := [some (.ref m), some (.int (iI x1)), l2]) (st' := [.int (iI x1)]) dX7_print_43 (fun _ _ => rfl) ?_
    refine qv_ic dX7_print_44 ?_
    obtain ⟨h1, h2⟩ := h
    refine qv_icmp (t := 76) dX7_print_45 (by decide) (d_ne hx1 (by decide)) (fun c => ?_) (fun c => ?_)
    · have h := h1 c
      exact h
    · have h := h2 (Decidable.of_not_not c)
      refine qv_g (pc' := 49) (ls' := [some (.ref m), some (.int (iI x1)), l2]) (st' := [.ref m]) dX7_print_48 (fun _ _ => rfl) ?_
      refine qv_ldc2 (z := 111542001886546) dX7_print_49 rfl ?_
      exact qv_call dX7_print_52 (fun _ _ => ex_calV rfl (by decide)) rfl (Nat.le_of_ble_eq_true rfl) (Nat.le_of_ble_eq_true rfl) (Nat.le_of_ble_eq_true rfl) (fun _ hm => rcv0 rfl rfl (by decide) hm) rfl rfl rfl h
  · have h := h2 (Int.not_le.mp c)
    refine qv_ic dX7_print_36 ?_
    exact qv_ret dX7_print_37 rfl h
theorem v147_55 {v : VS} {Q : Rs → VS → Prop} {x1 : Int} {l2 : Option Value}
    (h : RW g C S m A 112 0 [some (.ref m), some (.long (lI 44119840088942)), none, none, none] [] v (VK g C S m A 147 62 [some (.ref m), some (.int (iI x1)), l2] [] Q)) (hx1 : (-2147483648 : Int) ≤ x1 ∧ x1 ≤ 2147483647 := by omega) :
    RW g C S m A 147 55 [some (.ref m), some (.int (iI x1)), l2] [] v Q := by
  refine qv_R (fun hvv => ?_)
  refine qv_g (pc' := 56) (ls' := [some (.ref m), some (.int (iI x1)), l2]) (st' := [.ref m]) dX7_print_55 (fun _ _ => rfl) ?_
  refine qv_ldc2 (z := 44119840088942) dX7_print_56 rfl ?_
  exact qv_call dX7_print_59 (fun _ _ => ex_calV rfl (by decide)) rfl (Nat.le_of_ble_eq_true rfl) (Nat.le_of_ble_eq_true rfl) (Nat.le_of_ble_eq_true rfl) (fun _ hm => rcv0 rfl rfl (by decide) hm) rfl rfl rfl h
theorem v147_62 {v : VS} {Q : Rs → VS → Prop} {x1 : Int} {l2 : Option Value}
    (h : RW g C S m A 137 0 [some (.ref m), some (.int (iI (v 25 0)))] [] v (VK g C S m A 147 70 [some (.ref m), some (.int (iI x1)), l2] [] Q)) (hx1 : (-2147483648 : Int) ≤ x1 ∧ x1 ≤ 2147483647 := by omega) :
    RW g C S m A 147 62 [some (.ref m), some (.int (iI x1)), l2] [] v Q := by
  refine qv_R (fun hvv => ?_)
  refine qv_g (pc' := 63) (ls' := [some (.ref m), some (.int (iI x1)), l2]) (st' := [.ref m]) dX7_print_62 (fun _ _ => rfl) ?_
  refine qv_g (pc' := 64) (ls' := [some (.ref m), some (.int (iI x1)), l2]) (st' := [.ref m, .ref m]) dX7_print_63 (fun _ _ => rfl) ?_
  refine qv_getI dX7_print_64 rfl rfl rfl ?_
  exact qv_call dX7_print_67 (fun _ _ => ex_calV rfl (by decide)) rfl (Nat.le_of_ble_eq_true rfl) (Nat.le_of_ble_eq_true rfl) (Nat.le_of_ble_eq_true rfl) (fun _ hm => rcv0 rfl rfl (by decide) hm) rfl rfl rfl h
theorem v147_70 {v : VS} {Q : Rs → VS → Prop} {x1 : Int} {l2 : Option Value}
    (h : RW g C S m A 111 0 [some (.ref m), some (.int (iI 41))] [] v (VK g C S m A 147 76 [some (.ref m), some (.int (iI x1)), l2] [] Q)) (hx1 : (-2147483648 : Int) ≤ x1 ∧ x1 ≤ 2147483647 := by omega) :
    RW g C S m A 147 70 [some (.ref m), some (.int (iI x1)), l2] [] v Q := by
  refine qv_R (fun hvv => ?_)
  refine qv_g (pc' := 71) (ls' := [some (.ref m), some (.int (iI x1)), l2]) (st' := [.ref m]) dX7_print_70 (fun _ _ => rfl) ?_
  refine qv_bi dX7_print_71 (by decide) ?_
  exact qv_call dX7_print_73 (fun _ _ => ex_calV rfl (by decide)) rfl (Nat.le_of_ble_eq_true rfl) (Nat.le_of_ble_eq_true rfl) (Nat.le_of_ble_eq_true rfl) (fun _ hm => rcv0 rfl rfl (by decide) hm) rfl rfl rfl h
theorem v147_76 {v : VS} {Q : Rs → VS → Prop} {x1 : Int} {l2 : Option Value}
    (h : (¬ x1 = (-1) → ((0 : Int) ≤ x1 ∧ (x1 : Int) < 24) ∧ RW g C S m A 147 95 [some (.ref m), some (.int (iI x1)), l2] [.int (iI (v 30 x1)), .ref m] v Q) ∧ (x1 = (-1) → RW g C S m A 147 95 [some (.ref m), some (.int (iI x1)), l2] [.int (iI (v 21 0)), .ref m] v Q)) (hx1 : (-2147483648 : Int) ≤ x1 ∧ x1 ≤ 2147483647 := by omega) :
    RW g C S m A 147 76 [some (.ref m), some (.int (iI x1)), l2] [] v Q := by
  refine qv_R (fun hvv => ?_)
  refine qv_g (pc' := 77) (ls' := [some (.ref m), some (.int (iI x1)), l2]) (st' := [.ref m]) dX7_print_76 (fun _ _ => rfl) ?_
  refine qv_g (pc' := 78) (ls' := [some (.ref m), some (.int (iI x1)), l2]) (st' := [.int (iI x1), .ref m]) dX7_print_77 (fun _ _ => rfl) ?_
  refine qv_ic dX7_print_78 ?_
  obtain ⟨h1, h2⟩ := h
  refine qv_icmp (t := 89) dX7_print_79 (by decide) (d_ne hx1 (by decide)) (fun c => ?_) (fun c => ?_)
  · have h := h1 c
    refine qv_g (pc' := 90) (ls' := [some (.ref m), some (.int (iI x1)), l2]) (st' := [.ref m, .ref m]) dX7_print_89 (fun _ _ => rfl) ?_
    refine qv_getA dX7_print_90 rfl rfl (by decide) ?_
    refine qv_g (pc' := 94) (ls' := [some (.ref m), some (.int (iI x1)), l2]) (st' := [.int (iI x1), .ref (A 30), .ref m]) dX7_print_93 (fun _ _ => rfl) ?_
    obtain ⟨hr1, h⟩ := h
    refine qv_iald dX7_print_94 (by decide) hr1 (by decide) ?_
    exact h
  · have h := h2 (Decidable.of_not_not c)
    refine qv_g (pc' := 83) (ls' := [some (.ref m), some (.int (iI x1)), l2]) (st' := [.ref m, .ref m]) dX7_print_82 (fun _ _ => rfl) ?_
    refine qv_getI dX7_print_83 rfl rfl rfl ?_
    refine qv_goto (t := 95) dX7_print_86 (by decide) ?_
    exact h
theorem v147_95 {v : VS} {Q : Rs → VS → Prop} {x1 : Int} {l2 : Option Value} {u0 : Int}
    (h : (∀ w1, w1 = uv v 35 0 u0 → RW g C S m A 147 100 [some (.ref m), some (.int (iI x1)), some (.int (iI 0))] [] w1 Q)) (hx1 : (-2147483648 : Int) ≤ x1 ∧ x1 ≤ 2147483647 := by omega) (hu0 : (-2147483648 : Int) ≤ u0 ∧ u0 ≤ 2147483647 := by omega) :
    RW g C S m A 147 95 [some (.ref m), some (.int (iI x1)), l2] [.int (iI u0), .ref m] v Q := by
  refine qv_R (fun hvv => ?_)
  refine qv_putI dX7_print_95 rfl rfl (Or.inl rfl) rfl (Or.inl rfl) hu0 ?_
  generalize ew1 : uv v 35 0 u0 = w1
  replace h := h _ ew1.symm
  refine qv_R (fun hvw1 => ?_)
  refine qv_ic dX7_print_98 ?_
  refine qv_g (pc' := 100) (ls' := [some (.ref m), some (.int (iI x1)), some (.int (iI 0))]) (st' := []) dX7_print_99 (fun _ _ => rfl) ?_
  exact h
theorem v147_100 {v : VS} {Q : Rs → VS → Prop} {x1 : Int} {x2 : Int}
    (h : (v 35 0 ≤ x2 → Q (Sum.inl (some (.int (iI (v 35 0))))) v) ∧ (x2 < v 35 0 → (¬ x1 = (-1) → ((-2147483648 : Int) ≤ 1000 * x1 ∧ 1000 * x1 ≤ 2147483647) ∧ ((-2147483648 : Int) ≤ (1000 * x1) + x2 ∧ (1000 * x1) + x2 ≤ 2147483647) ∧ ((0 : Int) ≤ (1000 * x1) + x2 ∧ ((1000 * x1) + x2 : Int) < 24000) ∧ RW g C S m A 147 139 [some (.ref m), some (.int (iI x1)), some (.int (iI x2))] [.int (iI (v 31 ((1000 * x1) + x2))), .int (iI x2), .ref (A 36)] v Q) ∧ (x1 = (-1) → ((0 : Int) ≤ x2 ∧ (x2 : Int) < 1000) ∧ RW g C S m A 147 139 [some (.ref m), some (.int (iI x1)), some (.int (iI x2))] [.int (iI (v 20 x2)), .int (iI x2), .ref (A 36)] v Q))) (hx1 : (-2147483648 : Int) ≤ x1 ∧ x1 ≤ 2147483647 := by omega) (hx2 : (-2147483648 : Int) ≤ x2 ∧ x2 ≤ 2147483647 := by omega) :
    RW g C S m A 147 100 [some (.ref m), some (.int (iI x1)), some (.int (iI x2))] [] v Q := by
  refine qv_R (fun hvv => ?_)
  refine qv_g (pc' := 101) (ls' := [some (.ref m), some (.int (iI x1)), some (.int (iI x2))]) (st' := [.int (iI x2)]) dX7_print_100 (fun _ _ => rfl) ?_
  refine qv_g (pc' := 102) (ls' := [some (.ref m), some (.int (iI x1)), some (.int (iI x2))]) (st' := [.ref m, .int (iI x2)]) dX7_print_101 (fun _ _ => rfl) ?_
  refine qv_getI dX7_print_102 rfl rfl rfl ?_
  obtain ⟨h1, h2⟩ := h
  refine qv_icmp (t := 146) dX7_print_105 (by decide) (d_ge hx2 (hvv _ _)) (fun c => ?_) (fun c => ?_)
  · have h := h1 c
    refine qv_g (pc' := 147) (ls' := [some (.ref m), some (.int (iI x1)), some (.int (iI x2))]) (st' := [.ref m]) dX7_print_146 (fun _ _ => rfl) ?_
    refine qv_getI dX7_print_147 rfl rfl rfl ?_
    exact qv_ret dX7_print_150 rfl h
  · have h := h2 (Int.not_le.mp c)
    refine qv_g (pc' := 109) (ls' := [some (.ref m), some (.int (iI x1)), some (.int (iI x2))]) (st' := [.ref m]) dX7_print_108 (fun _ _ => rfl) ?_
    refine qv_getA dX7_print_109 rfl rfl (by decide) ?_
    refine qv_g (pc' := 113) (ls' := [some (.ref m), some (.int (iI x1)), some (.int (iI x2))]) (st' := [.int (iI x2), .ref (A 36)]) dX7_print_112 (fun _ _ => rfl) ?_
    refine qv_g (pc' := 114) (ls' := [some (.ref m), some (.int (iI x1)), some (.int (iI x2))]) (st' := [.int (iI x1), .int (iI x2), .ref (A 36)]) dX7_print_113 (fun _ _ => rfl) ?_
    refine qv_ic dX7_print_114 ?_
    obtain ⟨h1, h2⟩ := h
    refine qv_icmp (t := 127) dX7_print_115 (by decide) (d_ne hx1 (by decide)) (fun c => ?_) (fun c => ?_)
    · have h := h1 c
      refine qv_g (pc' := 128) (ls' := [some (.ref m), some (.int (iI x1)), some (.int (iI x2))]) (st' := [.ref m, .int (iI x2), .ref (A 36)]) dX7_print_127 (fun _ _ => rfl) ?_
      refine qv_getA dX7_print_128 rfl rfl (by decide) ?_
      refine qv_si dX7_print_131 (by decide) ?_
      refine qv_g (pc' := 135) (ls' := [some (.ref m), some (.int (iI x1)), some (.int (iI x2))]) (st' := [.int (iI x1), .int (iI 1000), .ref (A 31), .int (iI x2), .ref (A 36)]) dX7_print_134 (fun _ _ => rfl) ?_
      obtain ⟨hr1, h⟩ := h
      refine qv_mul dX7_print_135 ?_
      refine qv_g (pc' := 137) (ls' := [some (.ref m), some (.int (iI x1)), some (.int (iI x2))]) (st' := [.int (iI x2), .int (iI (1000 * x1)), .ref (A 31), .int (iI x2), .ref (A 36)]) dX7_print_136 (fun _ _ => rfl) ?_
      obtain ⟨hr2, h⟩ := h
      refine qv_add dX7_print_137 ?_
      obtain ⟨hr3, h⟩ := h
      refine qv_iald dX7_print_138 (by decide) hr3 (by decide) ?_
      exact h
    · have h := h2 (Decidable.of_not_not c)
      refine qv_g (pc' := 119) (ls' := [some (.ref m), some (.int (iI x1)), some (.int (iI x2))]) (st' := [.ref m, .int (iI x2), .ref (A 36)]) dX7_print_118 (fun _ _ => rfl) ?_
      refine qv_getA dX7_print_119 rfl rfl (by decide) ?_
      refine qv_g (pc' := 123) (ls' := [some (.ref m), some (.int (iI x1)), some (.int (iI x2))]) (st' := [.int (iI x2), .ref (A 20), .int (iI x2), .ref (A 36)]) dX7_print_122 (fun _ _ => rfl) ?_
      obtain ⟨hr4, h⟩ := h
      refine qv_iald dX7_print_123 (by decide) hr4 (by decide) ?_
      refine qv_goto (t := 139) dX7_print_124 (by decide) ?_
      exact h
theorem v147_139 {v : VS} {Q : Rs → VS → Prop} {x1 : Int} {x2 : Int} {u0 : Int} {u1 : Int}
    (h : ((0 : Int) ≤ u1 ∧ (u1 : Int) < 1000) ∧ (∀ w2, w2 = uv v 36 u1 u0 → ((-2147483648 : Int) ≤ x2 + 1 ∧ x2 + 1 ≤ 2147483647) ∧ RW g C S m A 147 100 [some (.ref m), some (.int (iI x1)), some (.int (iI (x2 + 1)))] [] w2 Q)) (hx1 : (-2147483648 : Int) ≤ x1 ∧ x1 ≤ 2147483647 := by omega) (hx2 : (-2147483648 : Int) ≤ x2 ∧ x2 ≤ 2147483647 := by omega) (hu0 : (-2147483648 : Int) ≤ u0 ∧ u0 ≤ 2147483647 := by omega) (hu1 : (-2147483648 : Int) ≤ u1 ∧ u1 ≤ 2147483647 := by omega) :
    RW g C S m A 147 139 [some (.ref m), some (.int (iI x1)), some (.int (iI x2))] [.int (iI u0), .int (iI u1), .ref (A 36)] v Q := by
  refine qv_R (fun hvv => ?_)
  obtain ⟨hr1, h⟩ := h
  refine qv_iast dX7_print_139 (by decide) hr1 (by decide) hu0 ?_
  generalize ew2 : uv v 36 u1 u0 = w2
  replace h := h _ ew2.symm
  refine qv_R (fun hvw2 => ?_)
  obtain ⟨hr3, h⟩ := h
  refine qv_inc (ls' := [some (.ref m), some (.int (iI x1)), some (.int (iI (x2 + 1)))]) dX7_print_140 rfl (Nat.le_of_ble_eq_true rfl) rfl ?_
  refine qv_goto (t := 100) dX7_print_143 (by decide) ?_
  exact h
theorem v148_0 {v : VS} {Q : Rs → VS → Prop} {x1 : Int}
    (h : (x1 < 0 → RW g C S m A 148 13 [some (.ref m), some (.int (iI x1))] [.ref m] v Q) ∧ (0 ≤ x1 → (x1 < v 35 0 → RW g C S m A 148 18 [some (.ref m), some (.int (iI x1))] [.int (iI 0), .ref m] v Q) ∧ (v 35 0 ≤ x1 → RW g C S m A 148 13 [some (.ref m), some (.int (iI x1))] [.ref m] v Q))) (hx1 : (-2147483648 : Int) ≤ x1 ∧ x1 ≤ 2147483647 := by omega) :
    RW g C S m A 148 0 [some (.ref m), some (.int (iI x1))] [] v Q := by
  refine qv_R (fun hvv => ?_)
  refine qv_g (pc' := 1) (ls' := [some (.ref m), some (.int (iI x1))]) (st' := [.ref m]) dX7_at_0 (fun _ _ => rfl) ?_
  refine qv_g (pc' := 2) (ls' := [some (.ref m), some (.int (iI x1))]) (st' := [.int (iI x1), .ref m]) dX7_at_1 (fun _ _ => rfl) ?_
  obtain ⟨h1, h2⟩ := h
  refine qv_if (t := 13) dX7_at_2 (by decide) (d_lt hx1 (by decide)) (fun c => ?_) (fun c => ?_)
  · have h := h1 c
    exact h
  · have h := h2 (Int.not_lt.mp c)
    refine qv_g (pc' := 6) (ls' := [some (.ref m), some (.int (iI x1))]) (st' := [.int (iI x1), .ref m]) dX7_at_5 (fun _ _ => rfl) ?_
    refine qv_g (pc' := 7) (ls' := [some (.ref m), some (.int (iI x1))]) (st' := [.ref m, .int (iI x1), .ref m]) dX7_at_6 (fun _ _ => rfl) ?_
    refine qv_getI dX7_at_7 rfl rfl rfl ?_
    obtain ⟨h1, h2⟩ := h
    refine qv_icmp (t := 17) dX7_at_10 (by decide) (d_lt hx1 (hvv _ _)) (fun c => ?_) (fun c => ?_)
    · have h := h1 c
      refine qv_ic dX7_at_17 ?_
      exact h
    · have h := h2 (Int.not_lt.mp c)
      exact h
theorem v148_13 {v : VS} {Q : Rs → VS → Prop} {x1 : Int}
    (h : RW g C S m A 148 18 [some (.ref m), some (.int (iI x1))] [.int (iI 1), .ref m] v Q) (hx1 : (-2147483648 : Int) ≤ x1 ∧ x1 ≤ 2147483647 := by omega) :
    RW g C S m A 148 13 [some (.ref m), some (.int (iI x1))] [.ref m] v Q := by
  refine qv_R (fun hvv => ?_)
  refine qv_ic dX7_at_13 ?_
  refine qv_goto (t := 18) dX7_at_14 (by decide) ?_
  exact h
theorem v148_18 {v : VS} {Q : Rs → VS → Prop} {x1 : Int} {u0 : Int}
    (h : (∀ w1, w1 = uv v 0 0 u0 → (w1 0 0 ≤ 0 → ((0 : Int) ≤ x1 ∧ (x1 : Int) < 1000) ∧ RW g C S m A 148 38 [some (.ref m), some (.int (iI x1))] [.int (iI (w1 36 x1))] w1 Q) ∧ (0 < w1 0 0 → RW g C S m A 148 38 [some (.ref m), some (.int (iI x1))] [.int (iI 0)] w1 Q))) (hx1 : (-2147483648 : Int) ≤ x1 ∧ x1 ≤ 2147483647 := by omega) (hu0 : (-2147483648 : Int) ≤ u0 ∧ u0 ≤ 2147483647 := by omega) :
    RW g C S m A 148 18 [some (.ref m), some (.int (iI x1))] [.int (iI u0), .ref m] v Q := by
  refine qv_R (fun hvv => ?_)
  refine qv_putI dX7_at_18 rfl rfl (Or.inl rfl) rfl (Or.inl rfl) hu0 ?_
  generalize ew1 : uv v 0 0 u0 = w1
  replace h := h _ ew1.symm
  refine qv_R (fun hvw1 => ?_)
  refine qv_g (pc' := 22) (ls' := [some (.ref m), some (.int (iI x1))]) (st' := [.ref m]) dX7_at_21 (fun _ _ => rfl) ?_
  refine qv_getI dX7_at_22 rfl rfl rfl ?_
  obtain ⟨h1, h2⟩ := h
  refine qv_if (t := 32) dX7_at_25 (by decide) (d_le (hvw1 _ _) (by decide)) (fun c => ?_) (fun c => ?_)
  · have h := h1 c
    refine qv_g (pc' := 33) (ls' := [some (.ref m), some (.int (iI x1))]) (st' := [.ref m]) dX7_at_32 (fun _ _ => rfl) ?_
    refine qv_getA dX7_at_33 rfl rfl (by decide) ?_
    refine qv_g (pc' := 37) (ls' := [some (.ref m), some (.int (iI x1))]) (st' := [.int (iI x1), .ref (A 36)]) dX7_at_36 (fun _ _ => rfl) ?_
    obtain ⟨hr2, h⟩ := h
    refine qv_iald dX7_at_37 (by decide) hr2 (by decide) ?_
    exact h
  · have h := h2 (Int.not_le.mp c)
    refine qv_ic dX7_at_28 ?_
    refine qv_goto (t := 38) dX7_at_29 (by decide) ?_
    exact h
theorem v148_38 {v : VS} {Q : Rs → VS → Prop} {l0 : Option Value} {l1 : Option Value} {u0 : Int}
    (h : Q (Sum.inl (some (.int (iI u0)))) v) (hu0 : (-2147483648 : Int) ≤ u0 ∧ u0 ≤ 2147483647 := by omega) :
    RW g C S m A 148 38 [l0, l1] [.int (iI u0)] v Q := by
  refine qv_R (fun hvv => ?_)
  exact qv_ret dX7_at_38 rfl h
theorem v149_0 {v : VS} {Q : Rs → VS → Prop} {x1 : Int} {l2 : Option Value} {l3 : Option Value} {l4 : Option Value}
    (h : (∀ w1, w1 = uv v 0 0 0 → RW g C S m A 149 12 [some (.ref m), some (.int (iI x1)), some (.int (iI 0)), some (.int (iI (-1))), some (.int (iI 0))] [] w1 Q)) (hx1 : (-2147483648 : Int) ≤ x1 ∧ x1 ≤ 2147483647 := by omega) :
    RW g C S m A 149 0 [some (.ref m), some (.int (iI x1)), l2, l3, l4] [] v Q := by
  refine qv_R (fun hvv => ?_)
  refine qv_g (pc' := 1) (ls' := [some (.ref m), some (.int (iI x1)), l2, l3, l4]) (st' := [.ref m]) dX7_twice_0 (fun _ _ => rfl) ?_
  refine qv_ic dX7_twice_1 ?_
  refine qv_putI dX7_twice_2 rfl rfl (Or.inl rfl) rfl (Or.inl rfl) (by decide) ?_
  generalize ew1 : uv v 0 0 0 = w1
  replace h := h _ ew1.symm
  refine qv_R (fun hvw1 => ?_)
  refine qv_ic dX7_twice_5 ?_
  refine qv_g (pc' := 7) (ls' := [some (.ref m), some (.int (iI x1)), some (.int (iI 0)), l3, l4]) (st' := []) dX7_twice_6 (fun _ _ => rfl) ?_
  refine qv_ic dX7_twice_7 ?_
  refine qv_g (pc' := 9) (ls' := [some (.ref m), some (.int (iI x1)), some (.int (iI 0)), some (.int (iI (-1))), l4]) (st' := []) dX7_twice_8 (fun _ _ => rfl) ?_
  refine qv_ic dX7_twice_9 ?_
  refine qv_g (pc' := 12) (ls' := [some (.ref m), some (.int (iI x1)), some (.int (iI 0)), some (.int (iI (-1))), some (.int (iI 0))]) (st' := []) dX7_twice_10 (fun _ _ => rfl) ?_
  exact h
theorem v149_12 {v : VS} {Q : Rs → VS → Prop} {x1 : Int} {x2 : Int} {x3 : Int} {x4 : Int}
    (h : (v 1 0 ≤ x4 → (¬ x1 = (-1) → (¬ x3 = (-1) → RW g C S m A 149 71 [some (.ref m), some (.int (iI x1)), some (.int (iI x2)), some (.int (iI x3)), some (.int (iI x4))] [.int (iI 0), .ref m] v Q) ∧ (x3 = (-1) → RW g C S m A 149 71 [some (.ref m), some (.int (iI x1)), some (.int (iI x2)), some (.int (iI x3)), some (.int (iI x4))] [.int (iI 1), .ref m] v Q)) ∧ (x1 = (-1) → Q (Sum.inl (some (.int (iI x2)))) v)) ∧ (x4 < v 1 0 → RW g C S m A 104 0 [some (.ref m), some (.int (iI x4)), none, none, none] [] v (VK g C S m A 149 27 [some (.ref m), some (.int (iI x1)), some (.int (iI x2)), some (.int (iI x3)), some (.int (iI x4))] [] Q))) (hx1 : (-2147483648 : Int) ≤ x1 ∧ x1 ≤ 2147483647 := by omega) (hx2 : (-2147483648 : Int) ≤ x2 ∧ x2 ≤ 2147483647 := by omega) (hx3 : (-2147483648 : Int) ≤ x3 ∧ x3 ≤ 2147483647 := by omega) (hx4 : (-2147483648 : Int) ≤ x4 ∧ x4 ≤ 2147483647 := by omega) :
    RW g C S m A 149 12 [some (.ref m), some (.int (iI x1)), some (.int (iI x2)), some (.int (iI x3)), some (.int (iI x4))] [] v Q := by
  refine qv_R (fun hvv => ?_)
  refine qv_g (pc' := 14) (ls' := [some (.ref m), some (.int (iI x1)), some (.int (iI x2)), some (.int (iI x3)), some (.int (iI x4))]) (st' := [.int (iI x4)]) dX7_twice_12 (fun _ _ => rfl) ?_
  refine qv_g (pc' := 15) (ls' := [some (.ref m), some (.int (iI x1)), some (.int (iI x2)), some (.int (iI x3)), some (.int (iI x4))]) (st' := [.ref m, .int (iI x4)]) dX7_twice_14 (fun _ _ => rfl) ?_
  refine qv_getI dX7_twice_15 rfl rfl rfl ?_
  obtain ⟨h1, h2⟩ := h
  refine qv_icmp (t := 53) dX7_twice_18 (by decide) (d_ge hx4 (hvv _ _)) (fun c => ?_) (fun c => ?_)
  · have h := h1 c
    refine qv_g (pc' := 54) (ls' := [some (.ref m), some (.int (iI x1)), some (.int (iI x2)), some (.int (iI x3)), some (.int (iI x4))]) (st' := [.int (iI x1)]) dX7_twice_53 (fun _ _ => rfl) ?_
    refine qv_ic dX7_twice_54 ?_
    obtain ⟨h1, h2⟩ := h
    refine qv_icmp (t := 60) dX7_twice_55 (by decide) (d_ne hx1 (by decide)) (fun c => ?_) (fun c => ?_)
    · have h := h1 c
      refine qv_g (pc' := 61) (ls' := [some (.ref m), some (.int (iI x1)), some (.int (iI x2)), some (.int (iI x3)), some (.int (iI x4))]) (st' := [.ref m]) dX7_twice_60 (fun _ _ => rfl) ?_
      refine qv_g (pc' := 62) (ls' := [some (.ref m), some (.int (iI x1)), some (.int (iI x2)), some (.int (iI x3)), some (.int (iI x4))]) (st' := [.int (iI x3), .ref m]) dX7_twice_61 (fun _ _ => rfl) ?_
      refine qv_ic dX7_twice_62 ?_
      obtain ⟨h1, h2⟩ := h
      refine qv_icmp (t := 70) dX7_twice_63 (by decide) (d_ne hx3 (by decide)) (fun c => ?_) (fun c => ?_)
      · have h := h1 c
        refine qv_ic dX7_twice_70 ?_
        exact h
      · have h := h2 (Decidable.of_not_not c)
        refine qv_ic dX7_twice_66 ?_
        refine qv_goto (t := 71) dX7_twice_67 (by decide) ?_
        exact h
    · have h := h2 (Decidable.of_not_not c)
      refine qv_g (pc' := 59) (ls' := [some (.ref m), some (.int (iI x1)), some (.int (iI x2)), some (.int (iI x3)), some (.int (iI x4))]) (st' := [.int (iI x2)]) dX7_twice_58 (fun _ _ => rfl) ?_
      exact qv_ret dX7_twice_59 rfl h
  · have h := h2 (Int.not_le.mp c)
    refine qv_g (pc' := 22) (ls' := [some (.ref m), some (.int (iI x1)), some (.int (iI x2)), some (.int (iI x3)), some (.int (iI x4))]) (st' := [.ref m]) dX7_twice_21 (fun _ _ => rfl) ?_
    refine qv_g (pc' := 24) (ls' := [some (.ref m), some (.int (iI x1)), some (.int (iI x2)), some (.int (iI x3)), some (.int (iI x4))]) (st' := [.int (iI x4), .ref m]) dX7_twice_22 (fun _ _ => rfl) ?_
    exact qv_call dX7_twice_24 (fun _ _ => ex_calV rfl (by decide)) rfl (Nat.le_of_ble_eq_true rfl) (Nat.le_of_ble_eq_true rfl) (Nat.le_of_ble_eq_true rfl) (fun _ hm => rcv0 rfl rfl (by decide) hm) rfl rfl rfl h
theorem v149_27 {v : VS} {Q : Rs → VS → Prop} {x1 : Int} {x2 : Int} {x3 : Int} {x4 : Int} {u0 : Int}
    (h : (u0 = x4 → RW g C S m A 149 47 [some (.ref m), some (.int (iI x1)), some (.int (iI x2)), some (.int (iI x3)), some (.int (iI x4))] [] v Q) ∧ (¬ u0 = x4 → (¬ x2 = x1 → RW g C S m A 149 43 [some (.ref m), some (.int (iI x1)), some (.int (iI x2)), some (.int (iI x3)), some (.int (iI x4))] [.int (iI x3)] v Q) ∧ (x2 = x1 → RW g C S m A 149 43 [some (.ref m), some (.int (iI x1)), some (.int (iI x2)), some (.int (iI x3)), some (.int (iI x4))] [.int (iI x4)] v Q))) (hx1 : (-2147483648 : Int) ≤ x1 ∧ x1 ≤ 2147483647 := by omega) (hx2 : (-2147483648 : Int) ≤ x2 ∧ x2 ≤ 2147483647 := by omega) (hx3 : (-2147483648 : Int) ≤ x3 ∧ x3 ≤ 2147483647 := by omega) (hx4 : (-2147483648 : Int) ≤ x4 ∧ x4 ≤ 2147483647 := by omega) (hu0 : (-2147483648 : Int) ≤ u0 ∧ u0 ≤ 2147483647 := by omega) :
    RW g C S m A 149 27 [some (.ref m), some (.int (iI x1)), some (.int (iI x2)), some (.int (iI x3)), some (.int (iI x4))] [.int (iI u0)] v Q := by
  refine qv_R (fun hvv => ?_)
  refine qv_g (pc' := 29) (ls' := [some (.ref m), some (.int (iI x1)), some (.int (iI x2)), some (.int (iI x3)), some (.int (iI x4))]) (st' := [.int (iI x4), .int (iI u0)]) dX7_twice_27 (fun _ _ => rfl) ?_
  obtain ⟨h1, h2⟩ := h
  refine qv_icmp (t := 47) dX7_twice_29 (by decide) (d_eq hu0 hx4) (fun c => ?_) (fun c => ?_)
  · have h := h1 c
    exact h
  · have h := h2 c
    refine qv_g (pc' := 33) (ls' := [some (.ref m), some (.int (iI x1)), some (.int (iI x2)), some (.int (iI x3)), some (.int (iI x4))]) (st' := [.int (iI x2)]) dX7_twice_32 (fun _ _ => rfl) ?_
    refine qv_g (pc' := 34) (ls' := [some (.ref m), some (.int (iI x1)), some (.int (iI x2)), some (.int (iI x3)), some (.int (iI x4))]) (st' := [.int (iI x1), .int (iI x2)]) dX7_twice_33 (fun _ _ => rfl) ?_
    obtain ⟨h1, h2⟩ := h
    refine qv_icmp (t := 42) dX7_twice_34 (by decide) (d_ne hx2 hx1) (fun c => ?_) (fun c => ?_)
    · have h := h1 c
      refine qv_g (pc' := 43) (ls' := [some (.ref m), some (.int (iI x1)), some (.int (iI x2)), some (.int (iI x3)), some (.int (iI x4))]) (st' := [.int (iI x3)]) dX7_twice_42 (fun _ _ => rfl) ?_
      exact h
    · have h := h2 (Decidable.of_not_not c)
      refine qv_g (pc' := 39) (ls' := [some (.ref m), some (.int (iI x1)), some (.int (iI x2)), some (.int (iI x3)), some (.int (iI x4))]) (st' := [.int (iI x4)]) dX7_twice_37 (fun _ _ => rfl) ?_
      refine qv_goto (t := 43) dX7_twice_39 (by decide) ?_
      exact h
theorem v149_43 {v : VS} {Q : Rs → VS → Prop} {x1 : Int} {x2 : Int} {l3 : Option Value} {x4 : Int} {u0 : Int}
    (h : ((-2147483648 : Int) ≤ x2 + 1 ∧ x2 + 1 ≤ 2147483647) ∧ RW g C S m A 149 47 [some (.ref m), some (.int (iI x1)), some (.int (iI (x2 + 1))), some (.int (iI u0)), some (.int (iI x4))] [] v Q) (hx1 : (-2147483648 : Int) ≤ x1 ∧ x1 ≤ 2147483647 := by omega) (hx2 : (-2147483648 : Int) ≤ x2 ∧ x2 ≤ 2147483647 := by omega) (hx4 : (-2147483648 : Int) ≤ x4 ∧ x4 ≤ 2147483647 := by omega) (hu0 : (-2147483648 : Int) ≤ u0 ∧ u0 ≤ 2147483647 := by omega) :
    RW g C S m A 149 43 [some (.ref m), some (.int (iI x1)), some (.int (iI x2)), l3, some (.int (iI x4))] [.int (iI u0)] v Q := by
  refine qv_R (fun hvv => ?_)
  refine qv_g (pc' := 44) (ls' := [some (.ref m), some (.int (iI x1)), some (.int (iI x2)), some (.int (iI u0)), some (.int (iI x4))]) (st' := []) dX7_twice_43 (fun _ _ => rfl) ?_
  obtain ⟨hr1, h⟩ := h
  refine qv_inc (ls' := [some (.ref m), some (.int (iI x1)), some (.int (iI (x2 + 1))), some (.int (iI u0)), some (.int (iI x4))]) dX7_twice_44 rfl (Nat.le_of_ble_eq_true rfl) rfl ?_
  exact h
theorem v149_47 {v : VS} {Q : Rs → VS → Prop} {x1 : Int} {x2 : Int} {x3 : Int} {x4 : Int}
    (h : ((-2147483648 : Int) ≤ x4 + 1 ∧ x4 + 1 ≤ 2147483647) ∧ RW g C S m A 149 12 [some (.ref m), some (.int (iI x1)), some (.int (iI x2)), some (.int (iI x3)), some (.int (iI (x4 + 1)))] [] v Q) (hx1 : (-2147483648 : Int) ≤ x1 ∧ x1 ≤ 2147483647 := by omega) (hx2 : (-2147483648 : Int) ≤ x2 ∧ x2 ≤ 2147483647 := by omega) (hx3 : (-2147483648 : Int) ≤ x3 ∧ x3 ≤ 2147483647 := by omega) (hx4 : (-2147483648 : Int) ≤ x4 ∧ x4 ≤ 2147483647 := by omega) :
    RW g C S m A 149 47 [some (.ref m), some (.int (iI x1)), some (.int (iI x2)), some (.int (iI x3)), some (.int (iI x4))] [] v Q := by
  refine qv_R (fun hvv => ?_)
  obtain ⟨hr1, h⟩ := h
  refine qv_inc (ls' := [some (.ref m), some (.int (iI x1)), some (.int (iI x2)), some (.int (iI x3)), some (.int (iI (x4 + 1)))]) dX7_twice_47 rfl (Nat.le_of_ble_eq_true rfl) rfl ?_
  refine qv_goto (t := 12) dX7_twice_50 (by decide) ?_
  exact h
theorem v149_71 {v : VS} {Q : Rs → VS → Prop} {l1 : Option Value} {l2 : Option Value} {x3 : Int} {l4 : Option Value} {u0 : Int}
    (h : (∀ w1, w1 = uv v 0 0 u0 → (w1 0 0 ≤ 0 → RW g C S m A 149 86 [some (.ref m), l1, l2, some (.int (iI x3)), l4] [.int (iI x3)] w1 Q) ∧ (0 < w1 0 0 → RW g C S m A 149 86 [some (.ref m), l1, l2, some (.int (iI x3)), l4] [.int (iI 0)] w1 Q))) (hx3 : (-2147483648 : Int) ≤ x3 ∧ x3 ≤ 2147483647 := by omega) (hu0 : (-2147483648 : Int) ≤ u0 ∧ u0 ≤ 2147483647 := by omega) :
    RW g C S m A 149 71 [some (.ref m), l1, l2, some (.int (iI x3)), l4] [.int (iI u0), .ref m] v Q := by
  refine qv_R (fun hvv => ?_)
  refine qv_putI dX7_twice_71 rfl rfl (Or.inl rfl) rfl (Or.inl rfl) hu0 ?_
  generalize ew1 : uv v 0 0 u0 = w1
  replace h := h _ ew1.symm
  refine qv_R (fun hvw1 => ?_)
  refine qv_g (pc' := 75) (ls' := [some (.ref m), l1, l2, some (.int (iI x3)), l4]) (st' := [.ref m]) dX7_twice_74 (fun _ _ => rfl) ?_
  refine qv_getI dX7_twice_75 rfl rfl rfl ?_
  obtain ⟨h1, h2⟩ := h
  refine qv_if (t := 85) dX7_twice_78 (by decide) (d_le (hvw1 _ _) (by decide)) (fun c => ?_) (fun c => ?_)
  · have h := h1 c
    refine qv_g (pc' := 86) (ls' := [some (.ref m), l1, l2, some (.int (iI x3)), l4]) (st' := [.int (iI x3)]) dX7_twice_85 (fun _ _ => rfl) ?_
    exact h
  · have h := h2 (Int.not_le.mp c)
    refine qv_ic dX7_twice_81 ?_
    refine qv_goto (t := 86) dX7_twice_82 (by decide) ?_
    exact h
theorem v149_86 {v : VS} {Q : Rs → VS → Prop} {l0 : Option Value} {l1 : Option Value} {l2 : Option Value} {l3 : Option Value} {l4 : Option Value} {u0 : Int}
    (h : Q (Sum.inl (some (.int (iI u0)))) v) (hu0 : (-2147483648 : Int) ≤ u0 ∧ u0 ≤ 2147483647 := by omega) :
    RW g C S m A 149 86 [l0, l1, l2, l3, l4] [.int (iI u0)] v Q := by
  refine qv_R (fun hvv => ?_)
  exact qv_ret dX7_twice_86 rfl h
end Blk
