section Blk
variable {g : Nat → Nat} {C S m : Nat} {A : Nat → Nat}
theorem v109_0 {v : VS} {Q : Rs → VS → Prop} {x1 : Int} {x2 : Int} {x3 : Int} {l4 : Option Value} {l5 : Option Value} {l6 : Option Value} {l7 : Option Value} {l8 : Option Value} {l9 : Option Value}
    (h : ((0 : Int) ≤ x1 ∧ (x1 : Int) < 2) ∧ ((-2147483648 : Int) ≤ (v 14 x1) - x2 ∧ (v 14 x1) - x2 ≤ 2147483647) ∧ (¬ (v 14 x1) - x2 = 0 → ((-2147483648 : Int) ≤ 64 * x1 ∧ 64 * x1 ≤ 2147483647) ∧ ((-2147483648 : Int) ≤ (64 * x1) + x2 ∧ (64 * x1) + x2 ≤ 2147483647) ∧ ((-2147483648 : Int) ≤ ((v 14 x1) - x2) - 1 ∧ ((v 14 x1) - x2) - 1 ≤ 2147483647) ∧ ((-2147483648 : Int) ≤ ((v 14 x1) - x2) - 1 ∧ ((v 14 x1) - x2) - 1 ≤ 2147483647) ∧ (¬ x3 = (-1) → RW g C S m A 109 152 [some (.ref m), some (.int (iI x1)), some (.int (iI x2)), some (.int (iI x3)), some (.int (iI ((v 14 x1) - x2))), some (.int (iI ((64 * x1) + x2))), some (.int (iI (((v 14 x1) - x2) - 1))), some (.int (iI (((v 14 x1) - x2) - 1))), some (.int (iI 0)), l9] [] v Q) ∧ (x3 = (-1) → RW g C S m A 109 47 [some (.ref m), some (.int (iI x1)), some (.int (iI x2)), some (.int (iI x3)), some (.int (iI ((v 14 x1) - x2))), some (.int (iI ((64 * x1) + x2))), some (.int (iI (((v 14 x1) - x2) - 1))), some (.int (iI (((v 14 x1) - x2) - 1))), some (.int (iI 0)), some (.int (iI 0))] [] v Q)) ∧ ((v 14 x1) - x2 = 0 → Q (Sum.inl none) v)) (hx1 : (-2147483648 : Int) ≤ x1 ∧ x1 ≤ 2147483647 := by omega) (hx2 : (-2147483648 : Int) ≤ x2 ∧ x2 ≤ 2147483647 := by omega) (hx3 : (-2147483648 : Int) ≤ x3 ∧ x3 ≤ 2147483647 := by omega) :
    RW g C S m A 109 0 [some (.ref m), some (.int (iI x1)), some (.int (iI x2)), some (.int (iI x3)), l4, l5, l6, l7, l8, l9] [] v Q := by
  refine qv_R (fun hvv => ?_)
  refine qv_g (pc' := 1) (ls' := [some (.ref m), some (.int (iI x1)), some (.int (iI x2)), some (.int (iI x3)), l4, l5, l6, l7, l8, l9]) (st' := [.ref m]) dX7_endPerson_0 (fun _ _ => rfl) ?_
  refine qv_getA dX7_endPerson_1 rfl rfl (by decide) ?_
  refine qv_g (pc' := 5) (ls' := [some (.ref m), some (.int (iI x1)), some (.int (iI x2)), some (.int (iI x3)), l4, l5, l6, l7, l8, l9]) (st' := [.int (iI x1), .ref (A 14)]) dX7_endPerson_4 (fun _ _ => rfl) ?_
  obtain ⟨hr1, h⟩ := h
  refine qv_iald dX7_endPerson_5 (by decide) hr1 (by decide) ?_
  refine qv_g (pc' := 7) (ls' := [some (.ref m), some (.int (iI x1)), some (.int (iI x2)), some (.int (iI x3)), l4, l5, l6, l7, l8, l9]) (st' := [.int (iI x2), .int (iI (v 14 x1))]) dX7_endPerson_6 (fun _ _ => rfl) ?_
  obtain ⟨hr2, h⟩ := h
  refine qv_sub dX7_endPerson_7 ?_
  refine qv_g (pc' := 10) (ls' := [some (.ref m), some (.int (iI x1)), some (.int (iI x2)), some (.int (iI x3)), some (.int (iI ((v 14 x1) - x2))), l5, l6, l7, l8, l9]) (st' := []) dX7_endPerson_8 (fun _ _ => rfl) ?_
  refine qv_g (pc' := 12) (ls' := [some (.ref m), some (.int (iI x1)), some (.int (iI x2)), some (.int (iI x3)), some (.int (iI ((v 14 x1) - x2))), l5, l6, l7, l8, l9]) (st' := [.int (iI ((v 14 x1) - x2))]) dX7_endPerson_10 (fun _ _ => rfl) ?_
  obtain ⟨h1, h2⟩ := h
  refine qv_if (t := 16) dX7_endPerson_12 (by decide) (d_ne hr2 (by decide)) (fun c => ?_) (fun c => ?_)
  · have h := h1 c
    refine qv_bi dX7_endPerson_16 (by decide) ?_
    refine qv_g (pc' := 19) (ls' := [some (.ref m), some (.int (iI x1)), some (.int (iI x2)), some (.int (iI x3)), some (.int (iI ((v 14 x1) - x2))), l5, l6, l7, l8, l9]) (st' := [.int (iI x1), .int (iI 64)]) dX7_endPerson_18 (fun _ _ => rfl) ?_
    obtain ⟨hr3, h⟩ := h
    refine qv_mul dX7_endPerson_19 ?_
    refine qv_g (pc' := 21) (ls' := [some (.ref m), some (.int (iI x1)), some (.int (iI x2)), some (.int (iI x3)), some (.int (iI ((v 14 x1) - x2))), l5, l6, l7, l8, l9]) (st' := [.int (iI x2), .int (iI (64 * x1))]) dX7_endPerson_20 (fun _ _ => rfl) ?_
    obtain ⟨hr4, h⟩ := h
    refine qv_add dX7_endPerson_21 ?_
    refine qv_g (pc' := 24) (ls' := [some (.ref m), some (.int (iI x1)), some (.int (iI x2)), some (.int (iI x3)), some (.int (iI ((v 14 x1) - x2))), some (.int (iI ((64 * x1) + x2))), l6, l7, l8, l9]) (st' := []) dX7_endPerson_22 (fun _ _ => rfl) ?_
    refine qv_g (pc' := 26) (ls' := [some (.ref m), some (.int (iI x1)), some (.int (iI x2)), some (.int (iI x3)), some (.int (iI ((v 14 x1) - x2))), some (.int (iI ((64 * x1) + x2))), l6, l7, l8, l9]) (st' := [.int (iI ((v 14 x1) - x2))]) dX7_endPerson_24 (fun _ _ => rfl) ?_
    refine qv_ic dX7_endPerson_26 ?_
    obtain ⟨hr5, h⟩ := h
    refine qv_sub dX7_endPerson_27 ?_
    refine qv_g (pc' := 30) (ls' := [some (.ref m), some (.int (iI x1)), some (.int (iI x2)), some (.int (iI x3)), some (.int (iI ((v 14 x1) - x2))), some (.int (iI ((64 * x1) + x2))), some (.int (iI (((v 14 x1) - x2) - 1))), l7, l8, l9]) (st' := []) dX7_endPerson_28 (fun _ _ => rfl) ?_
    refine qv_g (pc' := 32) (ls' := [some (.ref m), some (.int (iI x1)), some (.int (iI x2)), some (.int (iI x3)), some (.int (iI ((v 14 x1) - x2))), some (.int (iI ((64 * x1) + x2))), some (.int (iI (((v 14 x1) - x2) - 1))), l7, l8, l9]) (st' := [.int (iI ((v 14 x1) - x2))]) dX7_endPerson_30 (fun _ _ => rfl) ?_
    refine qv_ic dX7_endPerson_32 ?_
    obtain ⟨hr6, h⟩ := h
    refine qv_sub dX7_endPerson_33 ?_
    refine qv_g (pc' := 36) (ls' := [some (.ref m), some (.int (iI x1)), some (.int (iI x2)), some (.int (iI x3)), some (.int (iI ((v 14 x1) - x2))), some (.int (iI ((64 * x1) + x2))), some (.int (iI (((v 14 x1) - x2) - 1))), some (.int (iI (((v 14 x1) - x2) - 1))), l8, l9]) (st' := []) dX7_endPerson_34 (fun _ _ => rfl) ?_
    refine qv_g (pc' := 37) (ls' := [some (.ref m), some (.int (iI x1)), some (.int (iI x2)), some (.int (iI x3)), some (.int (iI ((v 14 x1) - x2))), some (.int (iI ((64 * x1) + x2))), some (.int (iI (((v 14 x1) - x2) - 1))), some (.int (iI (((v 14 x1) - x2) - 1))), l8, l9]) (st' := [.int (iI x3)]) dX7_endPerson_36 (fun _ _ => rfl) ?_
    refine qv_ic dX7_endPerson_37 ?_
    obtain ⟨h1, h2⟩ := h
    refine qv_icmp (t := 149) dX7_endPerson_38 (by decide) (d_ne hx3 (by decide)) (fun c => ?_) (fun c => ?_)
    · have h := h1 c
      refine qv_ic dX7_endPerson_149 ?_
      refine qv_g (pc' := 152) (ls' := [some (.ref m), some (.int (iI x1)), some (.int (iI x2)), some (.int (iI x3)), some (.int (iI ((v 14 x1) - x2))), some (.int (iI ((64 * x1) + x2))), some (.int (iI (((v 14 x1) - x2) - 1))), some (.int (iI (((v 14 x1) - x2) - 1))), some (.int (iI 0)), l9]) (st' := []) dX7_endPerson_150 (fun _ _ => rfl) ?_
      exact h
    · have h := h2 (Decidable.of_not_not c)
      refine qv_ic dX7_endPerson_41 ?_
      refine qv_g (pc' := 44) (ls' := [some (.ref m), some (.int (iI x1)), some (.int (iI x2)), some (.int (iI x3)), some (.int (iI ((v 14 x1) - x2))), some (.int (iI ((64 * x1) + x2))), some (.int (iI (((v 14 x1) - x2) - 1))), some (.int (iI (((v 14 x1) - x2) - 1))), some (.int (iI 0)), l9]) (st' := []) dX7_endPerson_42 (fun _ _ => rfl) ?_
      refine qv_ic dX7_endPerson_44 ?_
      refine qv_g (pc' := 47) (ls' := [some (.ref m), some (.int (iI x1)), some (.int (iI x2)), some (.int (iI x3)), some (.int (iI ((v 14 x1) - x2))), some (.int (iI ((64 * x1) + x2))), some (.int (iI (((v 14 x1) - x2) - 1))), some (.int (iI (((v 14 x1) - x2) - 1))), some (.int (iI 0)), some (.int (iI 0))]) (st' := []) dX7_endPerson_45 (fun _ _ => rfl) ?_
      exact h
  · have h := h2 (Decidable.of_not_not c)
    exact qv_vret dX7_endPerson_15 rfl h
theorem v109_47 {v : VS} {Q : Rs → VS → Prop} {x1 : Int} {l2 : Option Value} {l3 : Option Value} {x4 : Int} {x5 : Int} {x6 : Int} {x7 : Int} {x8 : Int} {x9 : Int}
    (h : ((-2147483648 : Int) ≤ x4 - 1 ∧ x4 - 1 ≤ 2147483647) ∧ (x4 - 1 ≤ x9 → RW g C S m A 109 100 [some (.ref m), some (.int (iI x1)), l2, l3, some (.int (iI x4)), some (.int (iI x5)), some (.int (iI x6)), some (.int (iI x7)), some (.int (iI x8)), some (.int (iI 0))] [] v Q) ∧ (x9 < x4 - 1 → ((-2147483648 : Int) ≤ x5 + x9 ∧ x5 + x9 ≤ 2147483647) ∧ RW g C S m A 107 0 [some (.ref m), some (.int (iI (x5 + x9)))] [] v (VK g C S m A 109 65 [some (.ref m), some (.int (iI x1)), l2, l3, some (.int (iI x4)), some (.int (iI x5)), some (.int (iI x6)), some (.int (iI x7)), some (.int (iI x8)), some (.int (iI x9))] [] Q))) (hx1 : (-2147483648 : Int) ≤ x1 ∧ x1 ≤ 2147483647 := by omega) (hx4 : (-2147483648 : Int) ≤ x4 ∧ x4 ≤ 2147483647 := by omega) (hx5 : (-2147483648 : Int) ≤ x5 ∧ x5 ≤ 2147483647 := by omega) (hx6 : (-2147483648 : Int) ≤ x6 ∧ x6 ≤ 2147483647 := by omega) (hx7 : (-2147483648 : Int) ≤ x7 ∧ x7 ≤ 2147483647 := by omega) (hx8 : (-2147483648 : Int) ≤ x8 ∧ x8 ≤ 2147483647 := by omega) (hx9 : (-2147483648 : Int) ≤ x9 ∧ x9 ≤ 2147483647 := by omega) :
    RW g C S m A 109 47 [some (.ref m), some (.int (iI x1)), l2, l3, some (.int (iI x4)), some (.int (iI x5)), some (.int (iI x6)), some (.int (iI x7)), some (.int (iI x8)), some (.int (iI x9))] [] v Q := by
  refine qv_R (fun hvv => ?_)
  refine qv_g (pc' := 49) (ls' := [some (.ref m), some (.int (iI x1)), l2, l3, some (.int (iI x4)), some (.int (iI x5)), some (.int (iI x6)), some (.int (iI x7)), some (.int (iI x8)), some (.int (iI x9))]) (st' := [.int (iI x9)]) dX7_endPerson_47 (fun _ _ => rfl) ?_
  refine qv_g (pc' := 51) (ls' := [some (.ref m), some (.int (iI x1)), l2, l3, some (.int (iI x4)), some (.int (iI x5)), some (.int (iI x6)), some (.int (iI x7)), some (.int (iI x8)), some (.int (iI x9))]) (st' := [.int (iI x4), .int (iI x9)]) dX7_endPerson_49 (fun _ _ => rfl) ?_
  refine qv_ic dX7_endPerson_51 ?_
  obtain ⟨hr1, h⟩ := h
  refine qv_sub dX7_endPerson_52 ?_
  obtain ⟨h1, h2⟩ := h
  refine qv_icmp (t := 97) dX7_endPerson_53 (by decide) (d_ge hx9 hr1) (fun c => ?_) (fun c => ?_)
  · have h := h1 c
    refine qv_ic dX7_endPerson_97 ?_
    refine qv_g (pc' := 100) (ls' := [some (.ref m), some (.int (iI x1)), l2, l3, some (.int (iI x4)), some (.int (iI x5)), some (.int (iI x6)), some (.int (iI x7)), some (.int (iI x8)), some (.int (iI 0))]) (st' := []) dX7_endPerson_98 (fun _ _ => rfl) ?_
    exact h
  · have h := h2 (Int.not_le.mp c)
    refine qv_g (pc' := 57) (ls' := [some (.ref m), some (.int (iI x1)), l2, l3, some (.int (iI x4)), some (.int (iI x5)), some (.int (iI x6)), some (.int (iI x7)), some (.int (iI x8)), some (.int (iI x9))]) (st' := [.ref m]) dX7_endPerson_56 (fun _ _ => rfl) ?_
    refine qv_g (pc' := 59) (ls' := [some (.ref m), some (.int (iI x1)), l2, l3, some (.int (iI x4)), some (.int (iI x5)), some (.int (iI x6)), some (.int (iI x7)), some (.int (iI x8)), some (.int (iI x9))]) (st' := [.int (iI x5), .ref m]) dX7_endPerson_57 (fun _ _ => rfl) ?_
    refine qv_g (pc' := 61) (ls' := [some (.ref m), some (.int (iI x1)), l2, l3, some (.int (iI x4)), some (.int (iI x5)), some (.int (iI x6)), some (.int (iI x7)), some (.int (iI x8)), some (.int (iI x9))]) (st' := [.int (iI x9), .int (iI x5), .ref m]) dX7_endPerson_59 (fun _ _ => rfl) ?_
    obtain ⟨hr2, h⟩ := h
    refine qv_add dX7_endPerson_61 ?_
    exact qv_call dX7_endPerson_62 (fun _ _ => ex_calV rfl (by decide)) rfl (Nat.le_of_ble_eq_true rfl) (Nat.le_of_ble_eq_true rfl) (Nat.le_of_ble_eq_true rfl) (fun _ hm => rcv0 rfl rfl (by decide) hm) rfl rfl rfl h
theorem v109_65 {v : VS} {Q : Rs → VS → Prop} {x1 : Int} {l2 : Option Value} {l3 : Option Value} {x4 : Int} {x5 : Int} {x6 : Int} {x7 : Int} {x8 : Int} {x9 : Int} {u0 : Int}
    (h : (u0 = 0 → RW g C S m A 109 91 [some (.ref m), some (.int (iI x1)), l2, l3, some (.int (iI x4)), some (.int (iI x5)), some (.int (iI x6)), some (.int (iI x7)), some (.int (iI x8)), some (.int (iI x9))] [] v Q) ∧ (¬ u0 = 0 → (x8 = 0 → RW g C S m A 109 80 [some (.ref m), some (.int (iI x1)), l2, l3, some (.int (iI x4)), some (.int (iI x5)), some (.int (iI x6)), some (.int (iI x7)), some (.int (iI x8)), some (.int (iI x9))] [.int (iI x9)] v Q) ∧ (¬ x8 = 0 → RW g C S m A 109 80 [some (.ref m), some (.int (iI x1)), l2, l3, some (.int (iI x4)), some (.int (iI x5)), some (.int (iI x6)), some (.int (iI x7)), some (.int (iI x8)), some (.int (iI x9))] [.int (iI x6)] v Q))) (hx1 : (-2147483648 : Int) ≤ x1 ∧ x1 ≤ 2147483647 := by omega) (hx4 : (-2147483648 : Int) ≤ x4 ∧ x4 ≤ 2147483647 := by omega) (hx5 : (-2147483648 : Int) ≤ x5 ∧ x5 ≤ 2147483647 := by omega) (hx6 : (-2147483648 : Int) ≤ x6 ∧ x6 ≤ 2147483647 := by omega) (hx7 : (-2147483648 : Int) ≤ x7 ∧ x7 ≤ 2147483647 := by omega) (hx8 : (-2147483648 : Int) ≤ x8 ∧ x8 ≤ 2147483647 := by omega) (hx9 : (-2147483648 : Int) ≤ x9 ∧ x9 ≤ 2147483647 := by omega) (hu0 : (-2147483648 : Int) ≤ u0 ∧ u0 ≤ 2147483647 := by omega) :
    RW g C S m A 109 65 [some (.ref m), some (.int (iI x1)), l2, l3, some (.int (iI x4)), some (.int (iI x5)), some (.int (iI x6)), some (.int (iI x7)), some (.int (iI x8)), some (.int (iI x9))] [.int (iI u0)] v Q := by
  refine qv_R (fun hvv => ?_)
  obtain ⟨h1, h2⟩ := h
  refine qv_if (t := 91) dX7_endPerson_65 (by decide) (d_eq hu0 (by decide)) (fun c => ?_) (fun c => ?_)
  · have h := h1 c
    exact h
  · have h := h2 c
    refine qv_g (pc' := 70) (ls' := [some (.ref m), some (.int (iI x1)), l2, l3, some (.int (iI x4)), some (.int (iI x5)), some (.int (iI x6)), some (.int (iI x7)), some (.int (iI x8)), some (.int (iI x9))]) (st' := [.int (iI x8)]) dX7_endPerson_68 (fun _ _ => rfl) ?_
    obtain ⟨h1, h2⟩ := h
    refine qv_if (t := 78) dX7_endPerson_70 (by decide) (d_eq hx8 (by decide)) (fun c => ?_) (fun c => ?_)
    · have h := h1 c
      refine qv_g (pc' := 80) (ls' := [some (.ref m), some (.int (iI x1)), l2, l3, some (.int (iI x4)), some (.int (iI x5)), some (.int (iI x6)), some (.int (iI x7)), some (.int (iI x8)), some (.int (iI x9))]) (st' := [.int (iI x9)]) dX7_endPerson_78 (fun _ _ => rfl) ?_
      exact h
    · have h := h2 c
      refine qv_g (pc' := 75) (ls' := [some (.ref m), some (.int (iI x1)), l2, l3, some (.int (iI x4)), some (.int (iI x5)), some (.int (iI x6)), some (.int (iI x7)), some (.int (iI x8)), some (.int (iI x9))]) (st' := [.int (iI x6)]) dX7_endPerson_73 (fun _ _ => rfl) ?_
      refine qv_goto (t := 80) dX7_endPerson_75 (by decide) ?_
      exact h
theorem v109_80 {v : VS} {Q : Rs → VS → Prop} {x1 : Int} {l2 : Option Value} {l3 : Option Value} {x4 : Int} {x5 : Int} {l6 : Option Value} {l7 : Option Value} {l8 : Option Value} {x9 : Int} {u0 : Int}
    (h : ((-2147483648 : Int) ≤ x9 + 1 ∧ x9 + 1 ≤ 2147483647) ∧ RW g C S m A 109 91 [some (.ref m), some (.int (iI x1)), l2, l3, some (.int (iI x4)), some (.int (iI x5)), some (.int (iI u0)), some (.int (iI (x9 + 1))), some (.int (iI 1)), some (.int (iI x9))] [] v Q) (hx1 : (-2147483648 : Int) ≤ x1 ∧ x1 ≤ 2147483647 := by omega) (hx4 : (-2147483648 : Int) ≤ x4 ∧ x4 ≤ 2147483647 := by omega) (hx5 : (-2147483648 : Int) ≤ x5 ∧ x5 ≤ 2147483647 := by omega) (hx9 : (-2147483648 : Int) ≤ x9 ∧ x9 ≤ 2147483647 := by omega) (hu0 : (-2147483648 : Int) ≤ u0 ∧ u0 ≤ 2147483647 := by omega) :
    RW g C S m A 109 80 [some (.ref m), some (.int (iI x1)), l2, l3, some (.int (iI x4)), some (.int (iI x5)), l6, l7, l8, some (.int (iI x9))] [.int (iI u0)] v Q := by
  refine qv_R (fun hvv => ?_)
  refine qv_g (pc' := 82) (ls' := [some (.ref m), some (.int (iI x1)), l2, l3, some (.int (iI x4)), some (.int (iI x5)), some (.int (iI u0)), l7, l8, some (.int (iI x9))]) (st' := []) dX7_endPerson_80 (fun _ _ => rfl) ?_
  refine qv_g (pc' := 84) (ls' := [some (.ref m), some (.int (iI x1)), l2, l3, some (.int (iI x4)), some (.int (iI x5)), some (.int (iI u0)), l7, l8, some (.int (iI x9))]) (st' := [.int (iI x9)]) dX7_endPerson_82 (fun _ _ => rfl) ?_
  refine qv_ic dX7_endPerson_84 ?_
  obtain ⟨hr1, h⟩ := h
  refine qv_add dX7_endPerson_85 ?_
  refine qv_g (pc' := 88) (ls' := [some (.ref m), some (.int (iI x1)), l2, l3, some (.int (iI x4)), some (.int (iI x5)), some (.int (iI u0)), some (.int (iI (x9 + 1))), l8, some (.int (iI x9))]) (st' := []) dX7_endPerson_86 (fun _ _ => rfl) ?_
  refine qv_ic dX7_endPerson_88 ?_
  refine qv_g (pc' := 91) (ls' := [some (.ref m), some (.int (iI x1)), l2, l3, some (.int (iI x4)), some (.int (iI x5)), some (.int (iI u0)), some (.int (iI (x9 + 1))), some (.int (iI 1)), some (.int (iI x9))]) (st' := []) dX7_endPerson_89 (fun _ _ => rfl) ?_
  exact h
theorem v109_91 {v : VS} {Q : Rs → VS → Prop} {x1 : Int} {l2 : Option Value} {l3 : Option Value} {x4 : Int} {x5 : Int} {x6 : Int} {x7 : Int} {x8 : Int} {x9 : Int}
    (h : ((-2147483648 : Int) ≤ x9 + 1 ∧ x9 + 1 ≤ 2147483647) ∧ RW g C S m A 109 47 [some (.ref m), some (.int (iI x1)), l2, l3, some (.int (iI x4)), some (.int (iI x5)), some (.int (iI x6)), some (.int (iI x7)), some (.int (iI x8)), some (.int (iI (x9 + 1)))] [] v Q) (hx1 : (-2147483648 : Int) ≤ x1 ∧ x1 ≤ 2147483647 := by omega) (hx4 : (-2147483648 : Int) ≤ x4 ∧ x4 ≤ 2147483647 := by omega) (hx5 : (-2147483648 : Int) ≤ x5 ∧ x5 ≤ 2147483647 := by omega) (hx6 : (-2147483648 : Int) ≤ x6 ∧ x6 ≤ 2147483647 := by omega) (hx7 : (-2147483648 : Int) ≤ x7 ∧ x7 ≤ 2147483647 := by omega) (hx8 : (-2147483648 : Int) ≤ x8 ∧ x8 ≤ 2147483647 := by omega) (hx9 : (-2147483648 : Int) ≤ x9 ∧ x9 ≤ 2147483647 := by omega) :
    RW g C S m A 109 91 [some (.ref m), some (.int (iI x1)), l2, l3, some (.int (iI x4)), some (.int (iI x5)), some (.int (iI x6)), some (.int (iI x7)), some (.int (iI x8)), some (.int (iI x9))] [] v Q := by
  refine qv_R (fun hvv => ?_)
  obtain ⟨hr1, h⟩ := h
  refine qv_inc (ls' := [some (.ref m), some (.int (iI x1)), l2, l3, some (.int (iI x4)), some (.int (iI x5)), some (.int (iI x6)), some (.int (iI x7)), some (.int (iI x8)), some (.int (iI (x9 + 1)))]) dX7_endPerson_91 rfl (Nat.le_of_ble_eq_true rfl) rfl ?_
  refine qv_goto (t := 47) dX7_endPerson_94 (by decide) ?_
  exact h
theorem v109_100 {v : VS} {Q : Rs → VS → Prop} {x1 : Int} {l2 : Option Value} {l3 : Option Value} {x4 : Int} {x5 : Int} {x6 : Int} {x7 : Int} {l8 : Option Value} {x9 : Int}
    (h : (x4 ≤ x9 → RW g C S m A 109 223 [some (.ref m), some (.int (iI x1)), l2, l3, some (.int (iI x4)), some (.int (iI x5)), some (.int (iI x6)), some (.int (iI x7)), l8, some (.int (iI x9))] [] v Q) ∧ (x9 < x4 → ((-2147483648 : Int) ≤ x5 + x9 ∧ x5 + x9 ≤ 2147483647) ∧ (x6 ≤ x9 → (x7 ≤ x9 → RW g C S m A 109 139 [some (.ref m), some (.int (iI x1)), l2, l3, some (.int (iI x4)), some (.int (iI x5)), some (.int (iI x6)), some (.int (iI x7)), l8, some (.int (iI x9))] [.int (iI 2), .int (iI (x5 + x9)), .ref (A 18)] v Q) ∧ (x9 < x7 → RW g C S m A 109 139 [some (.ref m), some (.int (iI x1)), l2, l3, some (.int (iI x4)), some (.int (iI x5)), some (.int (iI x6)), some (.int (iI x7)), l8, some (.int (iI x9))] [.int (iI 1), .int (iI (x5 + x9)), .ref (A 18)] v Q)) ∧ (x9 < x6 → RW g C S m A 109 139 [some (.ref m), some (.int (iI x1)), l2, l3, some (.int (iI x4)), some (.int (iI x5)), some (.int (iI x6)), some (.int (iI x7)), l8, some (.int (iI x9))] [.int (iI 0), .int (iI (x5 + x9)), .ref (A 18)] v Q))) (hx1 : (-2147483648 : Int) ≤ x1 ∧ x1 ≤ 2147483647 := by omega) (hx4 : (-2147483648 : Int) ≤ x4 ∧ x4 ≤ 2147483647 := by omega) (hx5 : (-2147483648 : Int) ≤ x5 ∧ x5 ≤ 2147483647 := by omega) (hx6 : (-2147483648 : Int) ≤ x6 ∧ x6 ≤ 2147483647 := by omega) (hx7 : (-2147483648 : Int) ≤ x7 ∧ x7 ≤ 2147483647 := by omega) (hx9 : (-2147483648 : Int) ≤ x9 ∧ x9 ≤ 2147483647 := by omega) :
    RW g C S m A 109 100 [some (.ref m), some (.int (iI x1)), l2, l3, some (.int (iI x4)), some (.int (iI x5)), some (.int (iI x6)), some (.int (iI x7)), l8, some (.int (iI x9))] [] v Q := by
  refine qv_R (fun hvv => ?_)
  refine qv_g (pc' := 102) (ls' := [some (.ref m), some (.int (iI x1)), l2, l3, some (.int (iI x4)), some (.int (iI x5)), some (.int (iI x6)), some (.int (iI x7)), l8, some (.int (iI x9))]) (st' := [.int (iI x9)]) dX7_endPerson_100 (fun _ _ => rfl) ?_
  refine qv_g (pc' := 104) (ls' := [some (.ref m), some (.int (iI x1)), l2, l3, some (.int (iI x4)), some (.int (iI x5)), some (.int (iI x6)), some (.int (iI x7)), l8, some (.int (iI x9))]) (st' := [.int (iI x4), .int (iI x9)]) dX7_endPerson_102 (fun _ _ => rfl) ?_
  obtain ⟨h1, h2⟩ := h
  refine qv_icmp (t := 146) dX7_endPerson_104 (by decide) (d_ge hx9 hx4) (fun c => ?_) (fun c => ?_)
  · have h := h1 c
    refine qv_goto (t := 223) dX7_endPerson_146 (by decide) ?_
    exact h
  · have h := h2 (Int.not_le.mp c)
    refine qv_g (pc' := 108) (ls' := [some (.ref m), some (.int (iI x1)), l2, l3, some (.int (iI x4)), some (.int (iI x5)), some (.int (iI x6)), some (.int (iI x7)), l8, some (.int (iI x9))]) (st' := [.ref m]) dX7_endPerson_107 (fun _ _ => rfl) ?_
    refine qv_getA dX7_endPerson_108 rfl rfl (by decide) ?_
    refine qv_g (pc' := 113) (ls' := [some (.ref m), some (.int (iI x1)), l2, l3, some (.int (iI x4)), some (.int (iI x5)), some (.int (iI x6)), some (.int (iI x7)), l8, some (.int (iI x9))]) (st' := [.int (iI x5), .ref (A 18)]) dX7_endPerson_111 (fun _ _ => rfl) ?_
    refine qv_g (pc' := 115) (ls' := [some (.ref m), some (.int (iI x1)), l2, l3, some (.int (iI x4)), some (.int (iI x5)), some (.int (iI x6)), some (.int (iI x7)), l8, some (.int (iI x9))]) (st' := [.int (iI x9), .int (iI x5), .ref (A 18)]) dX7_endPerson_113 (fun _ _ => rfl) ?_
    obtain ⟨hr1, h⟩ := h
    refine qv_add dX7_endPerson_115 ?_
    refine qv_g (pc' := 118) (ls' := [some (.ref m), some (.int (iI x1)), l2, l3, some (.int (iI x4)), some (.int (iI x5)), some (.int (iI x6)), some (.int (iI x7)), l8, some (.int (iI x9))]) (st' := [.int (iI x9), .int (iI (x5 + x9)), .ref (A 18)]) dX7_endPerson_116 (fun _ _ => rfl) ?_
    refine qv_g (pc' := 120) (ls' := [some (.ref m), some (.int (iI x1)), l2, l3, some (.int (iI x4)), some (.int (iI x5)), some (.int (iI x6)), some (.int (iI x7)), l8, some (.int (iI x9))]) (st' := [.int (iI x6), .int (iI x9), .int (iI (x5 + x9)), .ref (A 18)]) dX7_endPerson_118 (fun _ _ => rfl) ?_
    obtain ⟨h1, h2⟩ := h
    refine qv_icmp (t := 127) dX7_endPerson_120 (by decide) (d_ge hx9 hx6) (fun c => ?_) (fun c => ?_)
    · have h := h1 c
      refine qv_g (pc' := 129) (ls' := [some (.ref m), some (.int (iI x1)), l2, l3, some (.int (iI x4)), some (.int (iI x5)), some (.int (iI x6)), some (.int (iI x7)), l8, some (.int (iI x9))]) (st' := [.int (iI x9), .int (iI (x5 + x9)), .ref (A 18)]) dX7_endPerson_127 (fun _ _ => rfl) ?_
      refine qv_g (pc' := 131) (ls' := [some (.ref m), some (.int (iI x1)), l2, l3, some (.int (iI x4)), some (.int (iI x5)), some (.int (iI x6)), some (.int (iI x7)), l8, some (.int (iI x9))]) (st' := [.int (iI x7), .int (iI x9), .int (iI (x5 + x9)), .ref (A 18)]) dX7_endPerson_129 (fun _ _ => rfl) ?_
      obtain ⟨h1, h2⟩ := h
      refine qv_icmp (t := 138) dX7_endPerson_131 (by decide) (d_ge hx9 hx7) (fun c => ?_) (fun c => ?_)
      · have h := h1 c
        refine qv_ic dX7_endPerson_138 ?_
        exact h
      · have h := h2 (Int.not_le.mp c)
        refine qv_ic dX7_endPerson_134 ?_
        refine qv_goto (t := 139) dX7_endPerson_135 (by decide) ?_
        exact h
    · have h := h2 (Int.not_le.mp c)
      refine qv_ic dX7_endPerson_123 ?_
      refine qv_goto (t := 139) dX7_endPerson_124 (by decide) ?_
      exact h
theorem v109_139 {v : VS} {Q : Rs → VS → Prop} {x1 : Int} {l2 : Option Value} {l3 : Option Value} {x4 : Int} {x5 : Int} {x6 : Int} {x7 : Int} {l8 : Option Value} {x9 : Int} {u0 : Int} {u1 : Int}
    (h : ((0 : Int) ≤ u1 ∧ (u1 : Int) < 128) ∧ (∀ w2, w2 = uv v 18 u1 u0 → ((-2147483648 : Int) ≤ x9 + 1 ∧ x9 + 1 ≤ 2147483647) ∧ RW g C S m A 109 100 [some (.ref m), some (.int (iI x1)), l2, l3, some (.int (iI x4)), some (.int (iI x5)), some (.int (iI x6)), some (.int (iI x7)), (clr l8), some (.int (iI (x9 + 1)))] [] w2 Q)) (hx1 : (-2147483648 : Int) ≤ x1 ∧ x1 ≤ 2147483647 := by omega) (hx4 : (-2147483648 : Int) ≤ x4 ∧ x4 ≤ 2147483647 := by omega) (hx5 : (-2147483648 : Int) ≤ x5 ∧ x5 ≤ 2147483647 := by omega) (hx6 : (-2147483648 : Int) ≤ x6 ∧ x6 ≤ 2147483647 := by omega) (hx7 : (-2147483648 : Int) ≤ x7 ∧ x7 ≤ 2147483647 := by omega) (hx9 : (-2147483648 : Int) ≤ x9 ∧ x9 ≤ 2147483647 := by omega) (hu0 : (-2147483648 : Int) ≤ u0 ∧ u0 ≤ 2147483647 := by omega) (hu1 : (-2147483648 : Int) ≤ u1 ∧ u1 ≤ 2147483647 := by omega) :
    RW g C S m A 109 139 [some (.ref m), some (.int (iI x1)), l2, l3, some (.int (iI x4)), some (.int (iI x5)), some (.int (iI x6)), some (.int (iI x7)), l8, some (.int (iI x9))] [.int (iI u0), .int (iI u1), .ref (A 18)] v Q := by
  refine qv_R (fun hvv => ?_)
  obtain ⟨hr1, h⟩ := h
  refine qv_iast dX7_endPerson_139 (by decide) hr1 (by decide) hu0 ?_
  generalize ew2 : uv v 18 u1 u0 = w2
  replace h := h _ ew2.symm
  refine qv_R (fun hvw2 => ?_)
  obtain ⟨hr3, h⟩ := h
  refine qv_inc (ls' := [some (.ref m), some (.int (iI x1)), l2, l3, some (.int (iI x4)), some (.int (iI x5)), some (.int (iI x6)), some (.int (iI x7)), (clr l8), some (.int (iI (x9 + 1)))]) dX7_endPerson_140 rfl (Nat.le_of_ble_eq_true rfl) rfl ?_
  refine qv_goto (t := 100) dX7_endPerson_143 (by decide) ?_
  exact h
theorem v109_152 {v : VS} {Q : Rs → VS → Prop} {x1 : Int} {l2 : Option Value} {x3 : Int} {x4 : Int} {x5 : Int} {l6 : Option Value} {l7 : Option Value} {x8 : Int} {l9 : Option Value}
    (h : ((-2147483648 : Int) ≤ x8 + 1 ∧ x8 + 1 ≤ 2147483647) ∧ (x3 ≤ x8 + 1 → RW g C S m A 109 189 [some (.ref m), some (.int (iI x1)), l2, some (.int (iI x3)), some (.int (iI x4)), some (.int (iI x5)), l6, l7, some (.int (iI x8)), l9] [] v Q) ∧ (x8 + 1 < x3 → ((-2147483648 : Int) ≤ x5 + x8 ∧ x5 + x8 ≤ 2147483647) ∧ RW g C S m A 107 0 [some (.ref m), some (.int (iI (x5 + x8)))] [] v (VK g C S m A 109 169 [some (.ref m), some (.int (iI x1)), l2, some (.int (iI x3)), some (.int (iI x4)), some (.int (iI x5)), l6, l7, some (.int (iI x8)), l9] [] Q))) (hx1 : (-2147483648 : Int) ≤ x1 ∧ x1 ≤ 2147483647 := by omega) (hx3 : (-2147483648 : Int) ≤ x3 ∧ x3 ≤ 2147483647 := by omega) (hx4 : (-2147483648 : Int) ≤ x4 ∧ x4 ≤ 2147483647 := by omega) (hx5 : (-2147483648 : Int) ≤ x5 ∧ x5 ≤ 2147483647 := by omega) (hx8 : (-2147483648 : Int) ≤ x8 ∧ x8 ≤ 2147483647 := by omega) :
    RW g C S m A 109 152 [some (.ref m), some (.int (iI x1)), l2, some (.int (iI x3)), some (.int (iI x4)), some (.int (iI x5)), l6, l7, some (.int (iI x8)), l9] [] v Q := by
  refine qv_R (fun hvv => ?_)
  refine qv_g (pc' := 154) (ls' := [some (.ref m), some (.int (iI x1)), l2, some (.int (iI x3)), some (.int (iI x4)), some (.int (iI x5)), l6, l7, some (.int (iI x8)), l9]) (st' := [.int (iI x8)]) dX7_endPerson_152 (fun _ _ => rfl) ?_
  refine qv_ic dX7_endPerson_154 ?_
  obtain ⟨hr1, h⟩ := h
  refine qv_add dX7_endPerson_155 ?_
  refine qv_g (pc' := 157) (ls' := [some (.ref m), some (.int (iI x1)), l2, some (.int (iI x3)), some (.int (iI x4)), some (.int (iI x5)), l6, l7, some (.int (iI x8)), l9]) (st' := [.int (iI x3), .int (iI (x8 + 1))]) dX7_endPerson_156 (fun _ _ => rfl) ?_
  obtain ⟨h1, h2⟩ := h
  refine qv_icmp (t := 189) dX7_endPerson_157 (by decide) (d_ge hr1 hx3) (fun c => ?_) (fun c => ?_)
  · have h := h1 c
    exact h
  · have h := h2 (Int.not_le.mp c)
    refine qv_g (pc' := 161) (ls' := [some (.ref m), some (.int (iI x1)), l2, some (.int (iI x3)), some (.int (iI x4)), some (.int (iI x5)), l6, l7, some (.int (iI x8)), l9]) (st' := [.ref m]) dX7_endPerson_160 (fun _ _ => rfl) ?_
    refine qv_g (pc' := 163) (ls' := [some (.ref m), some (.int (iI x1)), l2, some (.int (iI x3)), some (.int (iI x4)), some (.int (iI x5)), l6, l7, some (.int (iI x8)), l9]) (st' := [.int (iI x5), .ref m]) dX7_endPerson_161 (fun _ _ => rfl) ?_
    refine qv_g (pc' := 165) (ls' := [some (.ref m), some (.int (iI x1)), l2, some (.int (iI x3)), some (.int (iI x4)), some (.int (iI x5)), l6, l7, some (.int (iI x8)), l9]) (st' := [.int (iI x8), .int (iI x5), .ref m]) dX7_endPerson_163 (fun _ _ => rfl) ?_
    obtain ⟨hr2, h⟩ := h
    refine qv_add dX7_endPerson_165 ?_
    exact qv_call dX7_endPerson_166 (fun _ _ => ex_calV rfl (by decide)) rfl (Nat.le_of_ble_eq_true rfl) (Nat.le_of_ble_eq_true rfl) (Nat.le_of_ble_eq_true rfl) (fun _ hm => rcv0 rfl rfl (by decide) hm) rfl rfl rfl h
theorem v109_169 {v : VS} {Q : Rs → VS → Prop} {x1 : Int} {l2 : Option Value} {x3 : Int} {x4 : Int} {x5 : Int} {l6 : Option Value} {l7 : Option Value} {x8 : Int} {l9 : Option Value} {u0 : Int}
    (h : (u0 = 0 → RW g C S m A 109 189 [some (.ref m), some (.int (iI x1)), l2, some (.int (iI x3)), some (.int (iI x4)), some (.int (iI x5)), l6, l7, some (.int (iI x8)), l9] [] v Q) ∧ (¬ u0 = 0 → ((-2147483648 : Int) ≤ x5 + x8 ∧ x5 + x8 ≤ 2147483647) ∧ ((0 : Int) ≤ x5 + x8 ∧ (x5 + x8 : Int) < 128) ∧ (∀ w3, w3 = uv v 18 (x5 + x8) 1 → ((-2147483648 : Int) ≤ x8 + 1 ∧ x8 + 1 ≤ 2147483647) ∧ RW g C S m A 109 152 [some (.ref m), some (.int (iI x1)), l2, some (.int (iI x3)), some (.int (iI x4)), some (.int (iI x5)), l6, (clr l7), some (.int (iI (x8 + 1))), l9] [] w3 Q))) (hx1 : (-2147483648 : Int) ≤ x1 ∧ x1 ≤ 2147483647 := by omega) (hx3 : (-2147483648 : Int) ≤ x3 ∧ x3 ≤ 2147483647 := by omega) (hx4 : (-2147483648 : Int) ≤ x4 ∧ x4 ≤ 2147483647 := by omega) (hx5 : (-2147483648 : Int) ≤ x5 ∧ x5 ≤ 2147483647 := by omega) (hx8 : (-2147483648 : Int) ≤ x8 ∧ x8 ≤ 2147483647 := by omega) (hu0 : (-2147483648 : Int) ≤ u0 ∧ u0 ≤ 2147483647 := by omega) :
    RW g C S m A 109 169 [some (.ref m), some (.int (iI x1)), l2, some (.int (iI x3)), some (.int (iI x4)), some (.int (iI x5)), l6, l7, some (.int (iI x8)), l9] [.int (iI u0)] v Q := by
  refine qv_R (fun hvv => ?_)
  obtain ⟨h1, h2⟩ := h
  refine qv_if (t := 189) dX7_endPerson_169 (by decide) (d_eq hu0 (by decide)) (fun c => ?_) (fun c => ?_)
  · have h := h1 c
    exact h
  · have h := h2 c
    refine qv_g (pc' := 173) (ls' := [some (.ref m), some (.int (iI x1)), l2, some (.int (iI x3)), some (.int (iI x4)), some (.int (iI x5)), l6, l7, some (.int (iI x8)), l9]) (st' := [.ref m]) dX7_endPerson_172 (fun _ _ => rfl) ?_
    refine qv_getA dX7_endPerson_173 rfl rfl (by decide) ?_
    refine qv_g (pc' := 178) (ls' := [some (.ref m), some (.int (iI x1)), l2, some (.int (iI x3)), some (.int (iI x4)), some (.int (iI x5)), l6, l7, some (.int (iI x8)), l9]) (st' := [.int (iI x5), .ref (A 18)]) dX7_endPerson_176 (fun _ _ => rfl) ?_
    refine qv_g (pc' := 180) (ls' := [some (.ref m), some (.int (iI x1)), l2, some (.int (iI x3)), some (.int (iI x4)), some (.int (iI x5)), l6, l7, some (.int (iI x8)), l9]) (st' := [.int (iI x8), .int (iI x5), .ref (A 18)]) dX7_endPerson_178 (fun _ _ => rfl) ?_
    obtain ⟨hr1, h⟩ := h
    refine qv_add dX7_endPerson_180 ?_
    refine qv_ic dX7_endPerson_181 ?_
    obtain ⟨hr2, h⟩ := h
    refine qv_iast dX7_endPerson_182 (by decide) hr2 (by decide) (by decide) ?_
    generalize ew3 : uv v 18 (x5 + x8) 1 = w3
    replace h := h _ ew3.symm
    refine qv_R (fun hvw3 => ?_)
    obtain ⟨hr4, h⟩ := h
    refine qv_inc (ls' := [some (.ref m), some (.int (iI x1)), l2, some (.int (iI x3)), some (.int (iI x4)), some (.int (iI x5)), l6, (clr l7), some (.int (iI (x8 + 1))), l9]) dX7_endPerson_183 rfl (Nat.le_of_ble_eq_true rfl) rfl ?_
    refine qv_goto (t := 152) dX7_endPerson_186 (by decide) ?_
    exact h
theorem v109_189 {v : VS} {Q : Rs → VS → Prop} {x1 : Int} {l2 : Option Value} {x3 : Int} {x4 : Int} {x5 : Int} {l6 : Option Value} {l7 : Option Value} {x8 : Int} {l9 : Option Value}
    (h : (x4 ≤ x8 → RW g C S m A 109 223 [some (.ref m), some (.int (iI x1)), l2, some (.int (iI x3)), some (.int (iI x4)), some (.int (iI x5)), l6, l7, some (.int (iI x8)), l9] [] v Q) ∧ (x8 < x4 → ((-2147483648 : Int) ≤ x5 + x8 ∧ x5 + x8 ≤ 2147483647) ∧ (x3 ≤ x8 → RW g C S m A 109 216 [some (.ref m), some (.int (iI x1)), l2, some (.int (iI x3)), some (.int (iI x4)), some (.int (iI x5)), l6, l7, some (.int (iI x8)), l9] [.int (iI 0), .int (iI (x5 + x8)), .ref (A 18)] v Q) ∧ (x8 < x3 → RW g C S m A 109 216 [some (.ref m), some (.int (iI x1)), l2, some (.int (iI x3)), some (.int (iI x4)), some (.int (iI x5)), l6, l7, some (.int (iI x8)), l9] [.int (iI 2), .int (iI (x5 + x8)), .ref (A 18)] v Q))) (hx1 : (-2147483648 : Int) ≤ x1 ∧ x1 ≤ 2147483647 := by omega) (hx3 : (-2147483648 : Int) ≤ x3 ∧ x3 ≤ 2147483647 := by omega) (hx4 : (-2147483648 : Int) ≤ x4 ∧ x4 ≤ 2147483647 := by omega) (hx5 : (-2147483648 : Int) ≤ x5 ∧ x5 ≤ 2147483647 := by omega) (hx8 : (-2147483648 : Int) ≤ x8 ∧ x8 ≤ 2147483647 := by omega) :
    RW g C S m A 109 189 [some (.ref m), some (.int (iI x1)), l2, some (.int (iI x3)), some (.int (iI x4)), some (.int (iI x5)), l6, l7, some (.int (iI x8)), l9] [] v Q := by
  refine qv_R (fun hvv => ?_)
  refine qv_g (pc' := 191) (ls' := [some (.ref m), some (.int (iI x1)), l2, some (.int (iI x3)), some (.int (iI x4)), some (.int (iI x5)), l6, l7, some (.int (iI x8)), l9]) (st' := [.int (iI x8)]) dX7_endPerson_189 (fun _ _ => rfl) ?_
  refine qv_g (pc' := 193) (ls' := [some (.ref m), some (.int (iI x1)), l2, some (.int (iI x3)), some (.int (iI x4)), some (.int (iI x5)), l6, l7, some (.int (iI x8)), l9]) (st' := [.int (iI x4), .int (iI x8)]) dX7_endPerson_191 (fun _ _ => rfl) ?_
  obtain ⟨h1, h2⟩ := h
  refine qv_icmp (t := 223) dX7_endPerson_193 (by decide) (d_ge hx8 hx4) (fun c => ?_) (fun c => ?_)
  · have h := h1 c
    exact h
  · have h := h2 (Int.not_le.mp c)
    refine qv_g (pc' := 197) (ls' := [some (.ref m), some (.int (iI x1)), l2, some (.int (iI x3)), some (.int (iI x4)), some (.int (iI x5)), l6, l7, some (.int (iI x8)), l9]) (st' := [.ref m]) dX7_endPerson_196 (fun _ _ => rfl) ?_
    refine qv_getA dX7_endPerson_197 rfl rfl (by decide) ?_
    refine qv_g (pc' := 202) (ls' := [some (.ref m), some (.int (iI x1)), l2, some (.int (iI x3)), some (.int (iI x4)), some (.int (iI x5)), l6, l7, some (.int (iI x8)), l9]) (st' := [.int (iI x5), .ref (A 18)]) dX7_endPerson_200 (fun _ _ => rfl) ?_
    refine qv_g (pc' := 204) (ls' := [some (.ref m), some (.int (iI x1)), l2, some (.int (iI x3)), some (.int (iI x4)), some (.int (iI x5)), l6, l7, some (.int (iI x8)), l9]) (st' := [.int (iI x8), .int (iI x5), .ref (A 18)]) dX7_endPerson_202 (fun _ _ => rfl) ?_
    obtain ⟨hr1, h⟩ := h
    refine qv_add dX7_endPerson_204 ?_
    refine qv_g (pc' := 207) (ls' := [some (.ref m), some (.int (iI x1)), l2, some (.int (iI x3)), some (.int (iI x4)), some (.int (iI x5)), l6, l7, some (.int (iI x8)), l9]) (st' := [.int (iI x8), .int (iI (x5 + x8)), .ref (A 18)]) dX7_endPerson_205 (fun _ _ => rfl) ?_
    refine qv_g (pc' := 208) (ls' := [some (.ref m), some (.int (iI x1)), l2, some (.int (iI x3)), some (.int (iI x4)), some (.int (iI x5)), l6, l7, some (.int (iI x8)), l9]) (st' := [.int (iI x3), .int (iI x8), .int (iI (x5 + x8)), .ref (A 18)]) dX7_endPerson_207 (fun _ _ => rfl) ?_
    obtain ⟨h1, h2⟩ := h
    refine qv_icmp (t := 215) dX7_endPerson_208 (by decide) (d_ge hx8 hx3) (fun c => ?_) (fun c => ?_)
    · have h := h1 c
      refine qv_ic dX7_endPerson_215 ?_
      exact h
    · have h := h2 (Int.not_le.mp c)
      refine qv_ic dX7_endPerson_211 ?_
      refine qv_goto (t := 216) dX7_endPerson_212 (by decide) ?_
      exact h
theorem v109_216 {v : VS} {Q : Rs → VS → Prop} {x1 : Int} {l2 : Option Value} {x3 : Int} {x4 : Int} {x5 : Int} {l6 : Option Value} {l7 : Option Value} {x8 : Int} {l9 : Option Value} {u0 : Int} {u1 : Int}
    (h : ((0 : Int) ≤ u1 ∧ (u1 : Int) < 128) ∧ (∀ w2, w2 = uv v 18 u1 u0 → ((-2147483648 : Int) ≤ x8 + 1 ∧ x8 + 1 ≤ 2147483647) ∧ RW g C S m A 109 189 [some (.ref m), some (.int (iI x1)), l2, some (.int (iI x3)), some (.int (iI x4)), some (.int (iI x5)), l6, (clr l7), some (.int (iI (x8 + 1))), l9] [] w2 Q)) (hx1 : (-2147483648 : Int) ≤ x1 ∧ x1 ≤ 2147483647 := by omega) (hx3 : (-2147483648 : Int) ≤ x3 ∧ x3 ≤ 2147483647 := by omega) (hx4 : (-2147483648 : Int) ≤ x4 ∧ x4 ≤ 2147483647 := by omega) (hx5 : (-2147483648 : Int) ≤ x5 ∧ x5 ≤ 2147483647 := by omega) (hx8 : (-2147483648 : Int) ≤ x8 ∧ x8 ≤ 2147483647 := by omega) (hu0 : (-2147483648 : Int) ≤ u0 ∧ u0 ≤ 2147483647 := by omega) (hu1 : (-2147483648 : Int) ≤ u1 ∧ u1 ≤ 2147483647 := by omega) :
    RW g C S m A 109 216 [some (.ref m), some (.int (iI x1)), l2, some (.int (iI x3)), some (.int (iI x4)), some (.int (iI x5)), l6, l7, some (.int (iI x8)), l9] [.int (iI u0), .int (iI u1), .ref (A 18)] v Q := by
  refine qv_R (fun hvv => ?_)
  obtain ⟨hr1, h⟩ := h
  refine qv_iast dX7_endPerson_216 (by decide) hr1 (by decide) hu0 ?_
  generalize ew2 : uv v 18 u1 u0 = w2
  replace h := h _ ew2.symm
  refine qv_R (fun hvw2 => ?_)
  obtain ⟨hr3, h⟩ := h
  refine qv_inc (ls' := [some (.ref m), some (.int (iI x1)), l2, some (.int (iI x3)), some (.int (iI x4)), some (.int (iI x5)), l6, (clr l7), some (.int (iI (x8 + 1))), l9]) dX7_endPerson_217 rfl (Nat.le_of_ble_eq_true rfl) rfl ?_
  refine qv_goto (t := 189) dX7_endPerson_220 (by decide) ?_
  exact h
theorem v109_223 {v : VS} {Q : Rs → VS → Prop} {x1 : Int} {l2 : Option Value} {l3 : Option Value} {l4 : Option Value} {l5 : Option Value} {l6 : Option Value} {l7 : Option Value} {l8 : Option Value} {l9 : Option Value}
    (h : ((0 : Int) ≤ x1 ∧ (x1 : Int) < 2) ∧ ((-2147483648 : Int) ≤ (v 19 x1) + 1 ∧ (v 19 x1) + 1 ≤ 2147483647) ∧ ((0 : Int) ≤ x1 ∧ (x1 : Int) < 2) ∧ (∀ w4, w4 = uv v 19 x1 ((v 19 x1) + 1) → Q (Sum.inl none) w4)) (hx1 : (-2147483648 : Int) ≤ x1 ∧ x1 ≤ 2147483647 := by omega) :
    RW g C S m A 109 223 [some (.ref m), some (.int (iI x1)), l2, l3, l4, l5, l6, l7, l8, l9] [] v Q := by
  refine qv_R (fun hvv => ?_)
  refine qv_g (pc' := 224) (ls' := [some (.ref m), some (.int (iI x1)), l2, l3, l4, l5, l6, l7, l8, l9]) (st' := [.ref m]) dX7_endPerson_223 (fun _ _ => rfl) ?_
  refine qv_getA dX7_endPerson_224 rfl rfl (by decide) ?_
  refine qv_g (pc' := 228) (ls' := [some (.ref m), some (.int (iI x1)), l2, l3, l4, l5, l6, l7, l8, l9]) (st' := [.int (iI x1), .ref (A 19)]) dX7_endPerson_227 (fun _ _ => rfl) ?_
  refine qv_g (pc' := 229) (ls' := [some (.ref m), some (.int (iI x1)), l2, l3, l4, l5, l6, l7, l8, l9]) (st' := [.int (iI x1), .ref (A 19), .int (iI x1), .ref (A 19)]) dX7_endPerson_228 (fun _ _ => rfl) ?_
  obtain ⟨hr1, h⟩ := h
  refine qv_iald dX7_endPerson_229 (by decide) hr1 (by decide) ?_
  refine qv_ic dX7_endPerson_230 ?_
  obtain ⟨hr2, h⟩ := h
  refine qv_add dX7_endPerson_231 ?_
  obtain ⟨hr3, h⟩ := h
  refine qv_iast dX7_endPerson_232 (by decide) hr3 (by decide) hr2 ?_
  generalize ew4 : uv v 19 x1 ((v 19 x1) + 1) = w4
  replace h := h _ ew4.symm
  refine qv_R (fun hvw4 => ?_)
  exact qv_vret dX7_endPerson_233 rfl h
theorem v110_0 {v : VS} {Q : Rs → VS → Prop} {x1 : Int} {x2 : Int} {l3 : Option Value} {l4 : Option Value} {l5 : Option Value} {l6 : Option Value} {l7 : Option Value} {l8 : Option Value} {l9 : Option Value} {l10 : Option Value} {l11 : Option Value} {l12 : Option Value} {l13 : Option Value}
    (h : ((0 : Int) ≤ x1 ∧ (x1 : Int) < 2) ∧ (∀ w2, w2 = uv v 14 x1 0 → ((0 : Int) ≤ x1 ∧ (x1 : Int) < 2) ∧ (∀ w4, w4 = uv w2 19 x1 0 → RW g C S m A 103 0 [some (.ref m), some (.int (iI x2)), some (.int (iI 0)), none] [] w4 (VK g C S m A 110 20 [some (.ref m), some (.int (iI x1)), some (.int (iI x2)), l3, l4, l5, l6, l7, l8, l9, l10, l11, l12, l13] [] Q)))) (hx1 : (-2147483648 : Int) ≤ x1 ∧ x1 ≤ 2147483647 := by omega) (hx2 : (-2147483648 : Int) ≤ x2 ∧ x2 ≤ 2147483647 := by omega) :
    RW g C S m A 110 0 [some (.ref m), some (.int (iI x1)), some (.int (iI x2)), l3, l4, l5, l6, l7, l8, l9, l10, l11, l12, l13] [] v Q := by
  refine qv_R (fun hvv => ?_)
  refine qv_g (pc' := 1) (ls' := [some (.ref m), some (.int (iI x1)), some (.int (iI x2)), l3, l4, l5, l6, l7, l8, l9, l10, l11, l12, l13]) (st' := [.ref m]) dX7_read_0 (fun _ _ => rfl) ?_
  refine qv_getA dX7_read_1 rfl rfl (by decide) ?_
  refine qv_g (pc' := 5) (ls' := [some (.ref m), some (.int (iI x1)), some (.int (iI x2)), l3, l4, l5, l6, l7, l8, l9, l10, l11, l12, l13]) (st' := [.int (iI x1), .ref (A 14)]) dX7_read_4 (fun _ _ => rfl) ?_
  refine qv_ic dX7_read_5 ?_
  obtain ⟨hr1, h⟩ := h
  refine qv_iast dX7_read_6 (by decide) hr1 (by decide) (by decide) ?_
  generalize ew2 : uv v 14 x1 0 = w2
  replace h := h _ ew2.symm
  refine qv_R (fun hvw2 => ?_)
  refine qv_g (pc' := 8) (ls' := [some (.ref m), some (.int (iI x1)), some (.int (iI x2)), l3, l4, l5, l6, l7, l8, l9, l10, l11, l12, l13]) (st' := [.ref m]) dX7_read_7 (fun _ _ => rfl) ?_
  refine qv_getA dX7_read_8 rfl rfl (by decide) ?_
  refine qv_g (pc' := 12) (ls' := [some (.ref m), some (.int (iI x1)), some (.int (iI x2)), l3, l4, l5, l6, l7, l8, l9, l10, l11, l12, l13]) (st' := [.int (iI x1), .ref (A 19)]) dX7_read_11 (fun _ _ => rfl) ?_
  refine qv_ic dX7_read_12 ?_
  obtain ⟨hr3, h⟩ := h
  refine qv_iast dX7_read_13 (by decide) hr3 (by decide) (by decide) ?_
  generalize ew4 : uv w2 19 x1 0 = w4
  replace h := h _ ew4.symm
  refine qv_R (fun hvw4 => ?_)
  refine qv_g (pc' := 15) (ls' := [some (.ref m), some (.int (iI x1)), some (.int (iI x2)), l3, l4, l5, l6, l7, l8, l9, l10, l11, l12, l13]) (st' := [.ref m]) dX7_read_14 (fun _ _ => rfl) ?_
  refine qv_g (pc' := 16) (ls' := [some (.ref m), some (.int (iI x1)), some (.int (iI x2)), l3, l4, l5, l6, l7, l8, l9, l10, l11, l12, l13]) (st' := [.int (iI x2), .ref m]) dX7_read_15 (fun _ _ => rfl) ?_
  refine qv_ic dX7_read_16 ?_
  exact qv_call dX7_read_17 (fun _ _ => ex_calV rfl (by decide)) rfl (Nat.le_of_ble_eq_true rfl) (Nat.le_of_ble_eq_true rfl) (Nat.le_of_ble_eq_true rfl) (fun _ hm => rcv0 rfl rfl (by decide) hm) rfl rfl rfl h
theorem v110_20 {v : VS} {Q : Rs → VS → Prop} {x1 : Int} {l2 : Option Value} {l3 : Option Value} {l4 : Option Value} {l5 : Option Value} {l6 : Option Value} {l7 : Option Value} {l8 : Option Value} {l9 : Option Value} {l10 : Option Value} {l11 : Option Value} {l12 : Option Value} {l13 : Option Value} {u0 : Int}
    (h : (¬ u0 = (-1) → ((0 : Int) ≤ u0 ∧ (u0 : Int) < 192) ∧ RW g C S m A 110 36 [some (.ref m), some (.int (iI x1)), (clr l2), some (.int (iI u0)), l4, l5, l6, l7, l8, l9, l10, l11, l12, l13] [.int (iI (v 5 u0))] v Q) ∧ (u0 = (-1) → RW g C S m A 110 36 [some (.ref m), some (.int (iI x1)), (clr l2), some (.int (iI u0)), l4, l5, l6, l7, l8, l9, l10, l11, l12, l13] [.int (iI 0)] v Q)) (hx1 : (-2147483648 : Int) ≤ x1 ∧ x1 ≤ 2147483647 := by omega) (hu0 : (-2147483648 : Int) ≤ u0 ∧ u0 ≤ 2147483647 := by omega) :
    RW g C S m A 110 20 [some (.ref m), some (.int (iI x1)), l2, l3, l4, l5, l6, l7, l8, l9, l10, l11, l12, l13] [.int (iI u0)] v Q := by
  refine qv_R (fun hvv => ?_)
  refine qv_g (pc' := 21) (ls' := [some (.ref m), some (.int (iI x1)), (clr l2), some (.int (iI u0)), l4, l5, l6, l7, l8, l9, l10, l11, l12, l13]) (st' := []) dX7_read_20 (fun _ _ => rfl) ?_
  refine qv_g (pc' := 22) (ls' := [some (.ref m), some (.int (iI x1)), (clr l2), some (.int (iI u0)), l4, l5, l6, l7, l8, l9, l10, l11, l12, l13]) (st' := [.int (iI u0)]) dX7_read_21 (fun _ _ => rfl) ?_
  refine qv_ic dX7_read_22 ?_
  obtain ⟨h1, h2⟩ := h
  refine qv_icmp (t := 30) dX7_read_23 (by decide) (d_ne hu0 (by decide)) (fun c => ?_) (fun c => ?_)
  · have h := h1 c
    refine qv_g (pc' := 31) (ls' := [some (.ref m), some (.int (iI x1)), (clr l2), some (.int (iI u0)), l4, l5, l6, l7, l8, l9, l10, l11, l12, l13]) (st' := [.ref m]) dX7_read_30 (fun _ _ => rfl) ?_
    refine qv_getA dX7_read_31 rfl rfl (by decide) ?_
    refine qv_g (pc' := 35) (ls' := [some (.ref m), some (.int (iI x1)), (clr l2), some (.int (iI u0)), l4, l5, l6, l7, l8, l9, l10, l11, l12, l13]) (st' := [.int (iI u0), .ref (A 5)]) dX7_read_34 (fun _ _ => rfl) ?_
    obtain ⟨hr1, h⟩ := h
    refine qv_iald dX7_read_35 (by decide) hr1 (by decide) ?_
    exact h
  · have h := h2 (Decidable.of_not_not c)
    refine qv_ic dX7_read_26 ?_
    refine qv_goto (t := 36) dX7_read_27 (by decide) ?_
    exact h
theorem v110_36 {v : VS} {Q : Rs → VS → Prop} {x1 : Int} {l2 : Option Value} {x3 : Int} {l4 : Option Value} {l5 : Option Value} {l6 : Option Value} {l7 : Option Value} {l8 : Option Value} {l9 : Option Value} {l10 : Option Value} {l11 : Option Value} {l12 : Option Value} {l13 : Option Value} {u0 : Int}
    (h : ((-2147483648 : Int) ≤ 80 * x1 ∧ 80 * x1 ≤ 2147483647) ∧ RW g C S m A 110 47 [some (.ref m), some (.int (iI x1)), l2, some (.int (iI x3)), some (.int (iI u0)), some (.int (iI (80 * x1))), some (.int (iI 0)), l7, l8, l9, l10, l11, l12, l13] [] v Q) (hx1 : (-2147483648 : Int) ≤ x1 ∧ x1 ≤ 2147483647 := by omega) (hx3 : (-2147483648 : Int) ≤ x3 ∧ x3 ≤ 2147483647 := by omega) (hu0 : (-2147483648 : Int) ≤ u0 ∧ u0 ≤ 2147483647 := by omega) :
    RW g C S m A 110 36 [some (.ref m), some (.int (iI x1)), l2, some (.int (iI x3)), l4, l5, l6, l7, l8, l9, l10, l11, l12, l13] [.int (iI u0)] v Q := by
  refine qv_R (fun hvv => ?_)
  refine qv_g (pc' := 38) (ls' := [some (.ref m), some (.int (iI x1)), l2, some (.int (iI x3)), some (.int (iI u0)), l5, l6, l7, l8, l9, l10, l11, l12, l13]) (st' := []) dX7_read_36 (fun _ _ => rfl) ?_
  refine qv_bi dX7_read_38 (by decide) ?_
  refine qv_g (pc' := 41) (ls' := [some (.ref m), some (.int (iI x1)), l2, some (.int (iI x3)), some (.int (iI u0)), l5, l6, l7, l8, l9, l10, l11, l12, l13]) (st' := [.int (iI x1), .int (iI 80)]) dX7_read_40 (fun _ _ => rfl) ?_
  obtain ⟨hr1, h⟩ := h
  refine qv_mul dX7_read_41 ?_
  refine qv_g (pc' := 44) (ls' := [some (.ref m), some (.int (iI x1)), l2, some (.int (iI x3)), some (.int (iI u0)), some (.int (iI (80 * x1))), l6, l7, l8, l9, l10, l11, l12, l13]) (st' := []) dX7_read_42 (fun _ _ => rfl) ?_
  refine qv_ic dX7_read_44 ?_
  refine qv_g (pc' := 47) (ls' := [some (.ref m), some (.int (iI x1)), l2, some (.int (iI x3)), some (.int (iI u0)), some (.int (iI (80 * x1))), some (.int (iI 0)), l7, l8, l9, l10, l11, l12, l13]) (st' := []) dX7_read_45 (fun _ _ => rfl) ?_
  exact h
theorem v110_47 {v : VS} {Q : Rs → VS → Prop} {x1 : Int} {l2 : Option Value} {x3 : Int} {x4 : Int} {x5 : Int} {x6 : Int} {l7 : Option Value} {l8 : Option Value} {l9 : Option Value} {l10 : Option Value} {l11 : Option Value} {l12 : Option Value} {l13 : Option Value}
    (h : (x4 ≤ x6 → RW g C S m A 110 91 [some (.ref m), some (.int (iI x1)), l2, some (.int (iI x3)), some (.int (iI x4)), some (.int (iI x5)), some (.int (iI 0)), some (.int (iI (-1))), some (.int (iI 0)), l9, l10, l11, l12, l13] [] v Q) ∧ (x6 < x4 → ((-2147483648 : Int) ≤ x5 + x6 ∧ x5 + x6 ≤ 2147483647) ∧ ((-2147483648 : Int) ≤ 80 * x3 ∧ 80 * x3 ≤ 2147483647) ∧ ((-2147483648 : Int) ≤ (80 * x3) + x6 ∧ (80 * x3) + x6 ≤ 2147483647) ∧ ((0 : Int) ≤ (80 * x3) + x6 ∧ ((80 * x3) + x6 : Int) < 15360) ∧ ((0 : Int) ≤ x5 + x6 ∧ (x5 + x6 : Int) < 160) ∧ (∀ w6, w6 = uv v 13 (x5 + x6) (v 6 ((80 * x3) + x6)) → ((-2147483648 : Int) ≤ x6 + 1 ∧ x6 + 1 ≤ 2147483647) ∧ RW g C S m A 110 47 [some (.ref m), some (.int (iI x1)), l2, some (.int (iI x3)), some (.int (iI x4)), some (.int (iI x5)), some (.int (iI (x6 + 1))), l7, l8, l9, l10, l11, l12, l13] [] w6 Q))) (hx1 : (-2147483648 : Int) ≤ x1 ∧ x1 ≤ 2147483647 := by omega) (hx3 : (-2147483648 : Int) ≤ x3 ∧ x3 ≤ 2147483647 := by omega) (hx4 : (-2147483648 : Int) ≤ x4 ∧ x4 ≤ 2147483647 := by omega) (hx5 : (-2147483648 : Int) ≤ x5 ∧ x5 ≤ 2147483647 := by omega) (hx6 : (-2147483648 : Int) ≤ x6 ∧ x6 ≤ 2147483647 := by omega) :
    RW g C S m A 110 47 [some (.ref m), some (.int (iI x1)), l2, some (.int (iI x3)), some (.int (iI x4)), some (.int (iI x5)), some (.int (iI x6)), l7, l8, l9, l10, l11, l12, l13] [] v Q := by
  refine qv_R (fun hvv => ?_)
  refine qv_g (pc' := 49) (ls' := [some (.ref m), some (.int (iI x1)), l2, some (.int (iI x3)), some (.int (iI x4)), some (.int (iI x5)), some (.int (iI x6)), l7, l8, l9, l10, l11, l12, l13]) (st' := [.int (iI x6)]) dX7_read_47 (fun _ _ => rfl) ?_
  refine qv_g (pc' := 51) (ls' := [some (.ref m), some (.int (iI x1)), l2, some (.int (iI x3)), some (.int (iI x4)), some (.int (iI x5)), some (.int (iI x6)), l7, l8, l9, l10, l11, l12, l13]) (st' := [.int (iI x4), .int (iI x6)]) dX7_read_49 (fun _ _ => rfl) ?_
  obtain ⟨h1, h2⟩ := h
  refine qv_icmp (t := 82) dX7_read_51 (by decide) (d_ge hx6 hx4) (fun c => ?_) (fun c => ?_)
  · have h := h1 c
    refine qv_ic dX7_read_82 ?_
    refine qv_g (pc' := 85) (ls' := [some (.ref m), some (.int (iI x1)), l2, some (.int (iI x3)), some (.int (iI x4)), some (.int (iI x5)), some (.int (iI 0)), l7, l8, l9, l10, l11, l12, l13]) (st' := []) dX7_read_83 (fun _ _ => rfl) ?_
    refine qv_ic dX7_read_85 ?_
    refine qv_g (pc' := 88) (ls' := [some (.ref m), some (.int (iI x1)), l2, some (.int (iI x3)), some (.int (iI x4)), some (.int (iI x5)), some (.int (iI 0)), some (.int (iI (-1))), l8, l9, l10, l11, l12, l13]) (st' := []) dX7_read_86 (fun _ _ => rfl) ?_
    refine qv_ic dX7_read_88 ?_
    refine qv_g (pc' := 91) (ls' := [some (.ref m), some (.int (iI x1)), l2, some (.int (iI x3)), some (.int (iI x4)), some (.int (iI x5)), some (.int (iI 0)), some (.int (iI (-1))), some (.int (iI 0)), l9, l10, l11, l12, l13]) (st' := []) dX7_read_89 (fun _ _ => rfl) ?_
    exact h
  · have h := h2 (Int.not_le.mp c)
    refine qv_g (pc' := 55) (ls' := [some (.ref m), some (.int (iI x1)), l2, some (.int (iI x3)), some (.int (iI x4)), some (.int (iI x5)), some (.int (iI x6)), l7, l8, l9, l10, l11, l12, l13]) (st' := [.ref m]) dX7_read_54 (fun _ _ => rfl) ?_
    refine qv_getA dX7_read_55 rfl rfl (by decide) ?_
    refine qv_g (pc' := 60) (ls' := [some (.ref m), some (.int (iI x1)), l2, some (.int (iI x3)), some (.int (iI x4)), some (.int (iI x5)), some (.int (iI x6)), l7, l8, l9, l10, l11, l12, l13]) (st' := [.int (iI x5), .ref (A 13)]) dX7_read_58 (fun _ _ => rfl) ?_
    refine qv_g (pc' := 62) (ls' := [some (.ref m), some (.int (iI x1)), l2, some (.int (iI x3)), some (.int (iI x4)), some (.int (iI x5)), some (.int (iI x6)), l7, l8, l9, l10, l11, l12, l13]) (st' := [.int (iI x6), .int (iI x5), .ref (A 13)]) dX7_read_60 (fun _ _ => rfl) ?_
    obtain ⟨hr1, h⟩ := h
    refine qv_add dX7_read_62 ?_
    refine qv_g (pc' := 64) (ls' := [some (.ref m), some (.int (iI x1)), l2, some (.int (iI x3)), some (.int (iI x4)), some (.int (iI x5)), some (.int (iI x6)), l7, l8, l9, l10, l11, l12, l13]) (st' := [.ref m, .int (iI (x5 + x6)), .ref (A 13)]) dX7_read_63 (fun _ _ => rfl) ?_
    refine qv_getA dX7_read_64 rfl rfl (by decide) ?_
    refine qv_bi dX7_read_67 (by decide) ?_
    refine qv_g (pc' := 70) (ls' := [some (.ref m), some (.int (iI x1)), l2, some (.int (iI x3)), some (.int (iI x4)), some (.int (iI x5)), some (.int (iI x6)), l7, l8, l9, l10, l11, l12, l13]) (st' := [.int (iI x3), .int (iI 80), .ref (A 6), .int (iI (x5 + x6)), .ref (A 13)]) dX7_read_69 (fun _ _ => rfl) ?_
    obtain ⟨hr2, h⟩ := h
    refine qv_mul dX7_read_70 ?_
    refine qv_g (pc' := 73) (ls' := [some (.ref m), some (.int (iI x1)), l2, some (.int (iI x3)), some (.int (iI x4)), some (.int (iI x5)), some (.int (iI x6)), l7, l8, l9, l10, l11, l12, l13]) (st' := [.int (iI x6), .int (iI (80 * x3)), .ref (A 6), .int (iI (x5 + x6)), .ref (A 13)]) dX7_read_71 (fun _ _ => rfl) ?_
    obtain ⟨hr3, h⟩ := h
    refine qv_add dX7_read_73 ?_
    obtain ⟨hr4, h⟩ := h
    refine qv_iald dX7_read_74 (by decide) hr4 (by decide) ?_
    obtain ⟨hr5, h⟩ := h
    refine qv_iast dX7_read_75 (by decide) hr5 (by decide) (hvv _ _) ?_
    generalize ew6 : uv v 13 (x5 + x6) (v 6 ((80 * x3) + x6)) = w6
    replace h := h _ ew6.symm
    refine qv_R (fun hvw6 => ?_)
    obtain ⟨hr7, h⟩ := h
    refine qv_inc (ls' := [some (.ref m), some (.int (iI x1)), l2, some (.int (iI x3)), some (.int (iI x4)), some (.int (iI x5)), some (.int (iI (x6 + 1))), l7, l8, l9, l10, l11, l12, l13]) dX7_read_76 rfl (Nat.le_of_ble_eq_true rfl) rfl ?_
    refine qv_goto (t := 47) dX7_read_79 (by decide) ?_
    exact h
theorem v110_91 {v : VS} {Q : Rs → VS → Prop} {x1 : Int} {l2 : Option Value} {l3 : Option Value} {x4 : Int} {x5 : Int} {x6 : Int} {x7 : Int} {x8 : Int} {l9 : Option Value} {l10 : Option Value} {l11 : Option Value} {l12 : Option Value} {l13 : Option Value}
    (h : (x4 ≤ x8 → RW g C S m A 109 0 [some (.ref m), some (.int (iI x1)), some (.int (iI x6)), some (.int (iI x7)), none, none, none, none, none, none] [] v (VK g C S m A 110 372 [some (.ref m), some (.int (iI x1)), l2, l3, some (.int (iI x4)), some (.int (iI x5)), some (.int (iI x6)), some (.int (iI x7)), some (.int (iI x8)), l9, l10, l11, l12, l13] [] Q)) ∧ (x8 < x4 → ((-2147483648 : Int) ≤ x5 + x8 ∧ x5 + x8 ≤ 2147483647) ∧ ((0 : Int) ≤ x5 + x8 ∧ (x5 + x8 : Int) < 160) ∧ (¬ v 13 (x5 + x8) = 32 → RW g C S m A 110 123 [some (.ref m), some (.int (iI x1)), l2, l3, some (.int (iI x4)), some (.int (iI x5)), some (.int (iI x6)), some (.int (iI x7)), some (.int (iI x8)), some (.int (iI x8)), l10, l11, l12, l13] [] v Q) ∧ (v 13 (x5 + x8) = 32 → ((-2147483648 : Int) ≤ x8 + 1 ∧ x8 + 1 ≤ 2147483647) ∧ RW g C S m A 110 91 [some (.ref m), some (.int (iI x1)), l2, l3, some (.int (iI x4)), some (.int (iI x5)), some (.int (iI x6)), some (.int (iI x7)), some (.int (iI (x8 + 1))), l9, l10, l11, l12, l13] [] v Q))) (hx1 : (-2147483648 : Int) ≤ x1 ∧ x1 ≤ 2147483647 := by omega) (hx4 : (-2147483648 : Int) ≤ x4 ∧ x4 ≤ 2147483647 := by omega) (hx5 : (-2147483648 : Int) ≤ x5 ∧ x5 ≤ 2147483647 := by omega) (hx6 : (-2147483648 : Int) ≤ x6 ∧ x6 ≤ 2147483647 := by omega) (hx7 : (-2147483648 : Int) ≤ x7 ∧ x7 ≤ 2147483647 := by omega) (hx8 : (-2147483648 : Int) ≤ x8 ∧ x8 ≤ 2147483647 := by omega) :
    RW g C S m A 110 91 [some (.ref m), some (.int (iI x1)), l2, l3, some (.int (iI x4)), some (.int (iI x5)), some (.int (iI x6)), some (.int (iI x7)), some (.int (iI x8)), l9, l10, l11, l12, l13] [] v Q := by
  refine qv_R (fun hvv => ?_)
  refine qv_g (pc' := 93) (ls' := [some (.ref m), some (.int (iI x1)), l2, l3, some (.int (iI x4)), some (.int (iI x5)), some (.int (iI x6)), some (.int (iI x7)), some (.int (iI x8)), l9, l10, l11, l12, l13]) (st' := [.int (iI x8)]) dX7_read_91 (fun _ _ => rfl) ?_
  refine qv_g (pc' := 95) (ls' := [some (.ref m), some (.int (iI x1)), l2, l3, some (.int (iI x4)), some (.int (iI x5)), some (.int (iI x6)), some (.int (iI x7)), some (.int (iI x8)), l9, l10, l11, l12, l13]) (st' := [.int (iI x4), .int (iI x8)]) dX7_read_93 (fun _ _ => rfl) ?_
  obtain ⟨h1, h2⟩ := h
  refine qv_icmp (t := 363) dX7_read_95 (by decide) (d_ge hx8 hx4) (fun c => ?_) (fun c => ?_)
  · have h := h1 c
    refine qv_g (pc' := 364) (ls' := [some (.ref m), some (.int (iI x1)), l2, l3, some (.int (iI x4)), some (.int (iI x5)), some (.int (iI x6)), some (.int (iI x7)), some (.int (iI x8)), l9, l10, l11, l12, l13]) (st' := [.ref m]) dX7_read_363 (fun _ _ => rfl) ?_
    refine qv_g (pc' := 365) (ls' := [some (.ref m), some (.int (iI x1)), l2, l3, some (.int (iI x4)), some (.int (iI x5)), some (.int (iI x6)), some (.int (iI x7)), some (.int (iI x8)), l9, l10, l11, l12, l13]) (st' := [.int (iI x1), .ref m]) dX7_read_364 (fun _ _ => rfl) ?_
    refine qv_g (pc' := 367) (ls' := [some (.ref m), some (.int (iI x1)), l2, l3, some (.int (iI x4)), some (.int (iI x5)), some (.int (iI x6)), some (.int (iI x7)), some (.int (iI x8)), l9, l10, l11, l12, l13]) (st' := [.int (iI x6), .int (iI x1), .ref m]) dX7_read_365 (fun _ _ => rfl) ?_
    refine qv_g (pc' := 369) (ls' := [some (.ref m), some (.int (iI x1)), l2, l3, some (.int (iI x4)), some (.int (iI x5)), some (.int (iI x6)), some (.int (iI x7)), some (.int (iI x8)), l9, l10, l11, l12, l13]) (st' := [.int (iI x7), .int (iI x6), .int (iI x1), .ref m]) dX7_read_367 (fun _ _ => rfl) ?_
    exact qv_call dX7_read_369 (fun _ _ => ex_calV rfl (by decide)) rfl (Nat.le_of_ble_eq_true rfl) (Nat.le_of_ble_eq_true rfl) (Nat.le_of_ble_eq_true rfl) (fun _ hm => rcv0 rfl rfl (by decide) hm) rfl rfl rfl h
  · have h := h2 (Int.not_le.mp c)
    refine qv_g (pc' := 99) (ls' := [some (.ref m), some (.int (iI x1)), l2, l3, some (.int (iI x4)), some (.int (iI x5)), some (.int (iI x6)), some (.int (iI x7)), some (.int (iI x8)), l9, l10, l11, l12, l13]) (st' := [.ref m]) dX7_read_98 (fun _ _ => rfl) ?_
    refine qv_getA dX7_read_99 rfl rfl (by decide) ?_
    refine qv_g (pc' := 104) (ls' := [some (.ref m), some (.int (iI x1)), l2, l3, some (.int (iI x4)), some (.int (iI x5)), some (.int (iI x6)), some (.int (iI x7)), some (.int (iI x8)), l9, l10, l11, l12, l13]) (st' := [.int (iI x5), .ref (A 13)]) dX7_read_102 (fun _ _ => rfl) ?_
    refine qv_g (pc' := 106) (ls' := [some (.ref m), some (.int (iI x1)), l2, l3, some (.int (iI x4)), some (.int (iI x5)), some (.int (iI x6)), some (.int (iI x7)), some (.int (iI x8)), l9, l10, l11, l12, l13]) (st' := [.int (iI x8), .int (iI x5), .ref (A 13)]) dX7_read_104 (fun _ _ => rfl) ?_
    obtain ⟨hr1, h⟩ := h
    refine qv_add dX7_read_106 ?_
    obtain ⟨hr2, h⟩ := h
    refine qv_iald dX7_read_107 (by decide) hr2 (by decide) ?_
    refine qv_bi dX7_read_108 (by decide) ?_
    obtain ⟨h1, h2⟩ := h
    refine qv_icmp (t := 119) dX7_read_110 (by decide) (d_ne (hvv _ _) (by decide)) (fun c => ?_) (fun c => ?_)
    · have h := h1 c
      refine qv_g (pc' := 121) (ls' := [some (.ref m), some (.int (iI x1)), l2, l3, some (.int (iI x4)), some (.int (iI x5)), some (.int (iI x6)), some (.int (iI x7)), some (.int (iI x8)), l9, l10, l11, l12, l13]) (st' := [.int (iI x8)]) dX7_read_119 (fun _ _ => rfl) ?_
      refine qv_g (pc' := 123) (ls' := [some (.ref m), some (.int (iI x1)), l2, l3, some (.int (iI x4)), some (.int (iI x5)), some (.int (iI x6)), some (.int (iI x7)), some (.int (iI x8)), some (.int (iI x8)), l10, l11, l12, l13]) (st' := []) dX7_read_121 (fun _ _ => rfl) ?_
      exact h
    · have h := h2 (Decidable.of_not_not c)
      obtain ⟨hr3, h⟩ := h
      refine qv_inc (ls' := [some (.ref m), some (.int (iI x1)), l2, l3, some (.int (iI x4)), some (.int (iI x5)), some (.int (iI x6)), some (.int (iI x7)), some (.int (iI (x8 + 1))), l9, l10, l11, l12, l13]) dX7_read_113 rfl (Nat.le_of_ble_eq_true rfl) rfl ?_
      refine qv_goto (t := 91) dX7_read_116 (by decide) ?_
      exact h
theorem v110_123 {v : VS} {Q : Rs → VS → Prop} {x1 : Int} {l2 : Option Value} {l3 : Option Value} {x4 : Int} {x5 : Int} {x6 : Int} {x7 : Int} {x8 : Int} {x9 : Int} {l10 : Option Value} {l11 : Option Value} {l12 : Option Value} {l13 : Option Value}
    (h : (x4 ≤ x9 → RW g C S m A 110 151 [some (.ref m), some (.int (iI x1)), l2, l3, some (.int (iI x4)), some (.int (iI x5)), some (.int (iI x6)), some (.int (iI x7)), some (.int (iI x8)), some (.int (iI x9)), l10, l11, l12, l13] [] v Q) ∧ (x9 < x4 → ((-2147483648 : Int) ≤ x5 + x9 ∧ x5 + x9 ≤ 2147483647) ∧ ((0 : Int) ≤ x5 + x9 ∧ (x5 + x9 : Int) < 160) ∧ (v 13 (x5 + x9) = 32 → RW g C S m A 110 151 [some (.ref m), some (.int (iI x1)), l2, l3, some (.int (iI x4)), some (.int (iI x5)), some (.int (iI x6)), some (.int (iI x7)), some (.int (iI x8)), some (.int (iI x9)), l10, l11, l12, l13] [] v Q) ∧ (¬ v 13 (x5 + x9) = 32 → ((-2147483648 : Int) ≤ x9 + 1 ∧ x9 + 1 ≤ 2147483647) ∧ RW g C S m A 110 123 [some (.ref m), some (.int (iI x1)), l2, l3, some (.int (iI x4)), some (.int (iI x5)), some (.int (iI x6)), some (.int (iI x7)), some (.int (iI x8)), some (.int (iI (x9 + 1))), l10, l11, l12, l13] [] v Q))) (hx1 : (-2147483648 : Int) ≤ x1 ∧ x1 ≤ 2147483647 := by omega) (hx4 : (-2147483648 : Int) ≤ x4 ∧ x4 ≤ 2147483647 := by omega) (hx5 : (-2147483648 : Int) ≤ x5 ∧ x5 ≤ 2147483647 := by omega) (hx6 : (-2147483648 : Int) ≤ x6 ∧ x6 ≤ 2147483647 := by omega) (hx7 : (-2147483648 : Int) ≤ x7 ∧ x7 ≤ 2147483647 := by omega) (hx8 : (-2147483648 : Int) ≤ x8 ∧ x8 ≤ 2147483647 := by omega) (hx9 : (-2147483648 : Int) ≤ x9 ∧ x9 ≤ 2147483647 := by omega) :
    RW g C S m A 110 123 [some (.ref m), some (.int (iI x1)), l2, l3, some (.int (iI x4)), some (.int (iI x5)), some (.int (iI x6)), some (.int (iI x7)), some (.int (iI x8)), some (.int (iI x9)), l10, l11, l12, l13] [] v Q := by
  refine qv_R (fun hvv => ?_)
  refine qv_g (pc' := 125) (ls' := [some (.ref m), some (.int (iI x1)), l2, l3, some (.int (iI x4)), some (.int (iI x5)), some (.int (iI x6)), some (.int (iI x7)), some (.int (iI x8)), some (.int (iI x9)), l10, l11, l12, l13]) (st' := [.int (iI x9)]) dX7_read_123 (fun _ _ => rfl) ?_
  refine qv_g (pc' := 127) (ls' := [some (.ref m), some (.int (iI x1)), l2, l3, some (.int (iI x4)), some (.int (iI x5)), some (.int (iI x6)), some (.int (iI x7)), some (.int (iI x8)), some (.int (iI x9)), l10, l11, l12, l13]) (st' := [.int (iI x4), .int (iI x9)]) dX7_read_125 (fun _ _ => rfl) ?_
  obtain ⟨h1, h2⟩ := h
  refine qv_icmp (t := 151) dX7_read_127 (by decide) (d_ge hx9 hx4) (fun c => ?_) (fun c => ?_)
  · have h := h1 c
    exact h
  · have h := h2 (Int.not_le.mp c)
    refine qv_g (pc' := 131) (ls' := [some (.ref m), some (.int (iI x1)), l2, l3, some (.int (iI x4)), some (.int (iI x5)), some (.int (iI x6)), some (.int (iI x7)), some (.int (iI x8)), some (.int (iI x9)), l10, l11, l12, l13]) (st' := [.ref m]) dX7_read_130 (fun _ _ => rfl) ?_
    refine qv_getA dX7_read_131 rfl rfl (by decide) ?_
    refine qv_g (pc' := 136) (ls' := [some (.ref m), some (.int (iI x1)), l2, l3, some (.int (iI x4)), some (.int (iI x5)), some (.int (iI x6)), some (.int (iI x7)), some (.int (iI x8)), some (.int (iI x9)), l10, l11, l12, l13]) (st' := [.int (iI x5), .ref (A 13)]) dX7_read_134 (fun _ _ => rfl) ?_
    refine qv_g (pc' := 138) (ls' := [some (.ref m), some (.int (iI x1)), l2, l3, some (.int (iI x4)), some (.int (iI x5)), some (.int (iI x6)), some (.int (iI x7)), some (.int (iI x8)), some (.int (iI x9)), l10, l11, l12, l13]) (st' := [.int (iI x9), .int (iI x5), .ref (A 13)]) dX7_read_136 (fun _ _ => rfl) ?_
    obtain ⟨hr1, h⟩ := h
    refine qv_add dX7_read_138 ?_
    obtain ⟨hr2, h⟩ := h
    refine qv_iald dX7_read_139 (by decide) hr2 (by decide) ?_
    refine qv_bi dX7_read_140 (by decide) ?_
    obtain ⟨h1, h2⟩ := h
    refine qv_icmp (t := 151) dX7_read_142 (by decide) (d_eq (hvv _ _) (by decide)) (fun c => ?_) (fun c => ?_)
    · have h := h1 c
      exact h
    · have h := h2 c
      obtain ⟨hr3, h⟩ := h
      refine qv_inc (ls' := [some (.ref m), some (.int (iI x1)), l2, l3, some (.int (iI x4)), some (.int (iI x5)), some (.int (iI x6)), some (.int (iI x7)), some (.int (iI x8)), some (.int (iI (x9 + 1))), l10, l11, l12, l13]) dX7_read_145 rfl (Nat.le_of_ble_eq_true rfl) rfl ?_
      refine qv_goto (t := 123) dX7_read_148 (by decide) ?_
      exact h
theorem v110_151 {v : VS} {Q : Rs → VS → Prop} {x1 : Int} {l2 : Option Value} {l3 : Option Value} {x4 : Int} {x5 : Int} {x6 : Int} {x7 : Int} {x8 : Int} {x9 : Int} {l10 : Option Value} {l11 : Option Value} {l12 : Option Value} {l13 : Option Value}
    (h : ((-2147483648 : Int) ≤ x8 + 3 ∧ x8 + 3 ≤ 2147483647) ∧ (¬ x9 = x8 + 3 → RW g C S m A 110 213 [some (.ref m), some (.int (iI x1)), l2, l3, some (.int (iI x4)), some (.int (iI x5)), some (.int (iI x6)), some (.int (iI x7)), some (.int (iI x8)), some (.int (iI x9)), l10, l11, l12, l13] [] v Q) ∧ (x9 = x8 + 3 → ((-2147483648 : Int) ≤ x5 + x8 ∧ x5 + x8 ≤ 2147483647) ∧ ((0 : Int) ≤ x5 + x8 ∧ (x5 + x8 : Int) < 160) ∧ (¬ v 13 (x5 + x8) = 97 → RW g C S m A 110 213 [some (.ref m), some (.int (iI x1)), l2, l3, some (.int (iI x4)), some (.int (iI x5)), some (.int (iI x6)), some (.int (iI x7)), some (.int (iI x8)), some (.int (iI x9)), l10, l11, l12, l13] [] v Q) ∧ (v 13 (x5 + x8) = 97 → ((-2147483648 : Int) ≤ x5 + x8 ∧ x5 + x8 ≤ 2147483647) ∧ ((-2147483648 : Int) ≤ (x5 + x8) + 1 ∧ (x5 + x8) + 1 ≤ 2147483647) ∧ ((0 : Int) ≤ (x5 + x8) + 1 ∧ ((x5 + x8) + 1 : Int) < 160) ∧ (¬ v 13 ((x5 + x8) + 1) = 110 → RW g C S m A 110 213 [some (.ref m), some (.int (iI x1)), l2, l3, some (.int (iI x4)), some (.int (iI x5)), some (.int (iI x6)), some (.int (iI x7)), some (.int (iI x8)), some (.int (iI x9)), l10, l11, l12, l13] [] v Q) ∧ (v 13 ((x5 + x8) + 1) = 110 → ((-2147483648 : Int) ≤ x5 + x8 ∧ x5 + x8 ≤ 2147483647) ∧ ((-2147483648 : Int) ≤ (x5 + x8) + 2 ∧ (x5 + x8) + 2 ≤ 2147483647) ∧ ((0 : Int) ≤ (x5 + x8) + 2 ∧ ((x5 + x8) + 2 : Int) < 160) ∧ (¬ v 13 ((x5 + x8) + 2) = 100 → RW g C S m A 110 213 [some (.ref m), some (.int (iI x1)), l2, l3, some (.int (iI x4)), some (.int (iI x5)), some (.int (iI x6)), some (.int (iI x7)), some (.int (iI x8)), some (.int (iI x9)), l10, l11, l12, l13] [] v Q) ∧ (v 13 ((x5 + x8) + 2) = 100 → RW g C S m A 110 214 [some (.ref m), some (.int (iI x1)), l2, l3, some (.int (iI x4)), some (.int (iI x5)), some (.int (iI x6)), some (.int (iI x7)), some (.int (iI x8)), some (.int (iI x9)), l10, l11, l12, l13] [.int (iI 1)] v Q))))) (hx1 : (-2147483648 : Int) ≤ x1 ∧ x1 ≤ 2147483647 := by omega) (hx4 : (-2147483648 : Int) ≤ x4 ∧ x4 ≤ 2147483647 := by omega) (hx5 : (-2147483648 : Int) ≤ x5 ∧ x5 ≤ 2147483647 := by omega) (hx6 : (-2147483648 : Int) ≤ x6 ∧ x6 ≤ 2147483647 := by omega) (hx7 : (-2147483648 : Int) ≤ x7 ∧ x7 ≤ 2147483647 := by omega) (hx8 : (-2147483648 : Int) ≤ x8 ∧ x8 ≤ 2147483647 := by omega) (hx9 : (-2147483648 : Int) ≤ x9 ∧ x9 ≤ 2147483647 := by omega) :
    RW g C S m A 110 151 [some (.ref m), some (.int (iI x1)), l2, l3, some (.int (iI x4)), some (.int (iI x5)), some (.int (iI x6)), some (.int (iI x7)), some (.int (iI x8)), some (.int (iI x9)), l10, l11, l12, l13] [] v Q := by
  refine qv_R (fun hvv => ?_)
  refine qv_g (pc' := 153) (ls' := [some (.ref m), some (.int (iI x1)), l2, l3, some (.int (iI x4)), some (.int (iI x5)), some (.int (iI x6)), some (.int (iI x7)), some (.int (iI x8)), some (.int (iI x9)), l10, l11, l12, l13]) (st' := [.int (iI x9)]) dX7_read_151 (fun _ _ => rfl) ?_
  refine qv_g (pc' := 155) (ls' := [some (.ref m), some (.int (iI x1)), l2, l3, some (.int (iI x4)), some (.int (iI x5)), some (.int (iI x6)), some (.int (iI x7)), some (.int (iI x8)), some (.int (iI x9)), l10, l11, l12, l13]) (st' := [.int (iI x8), .int (iI x9)]) dX7_read_153 (fun _ _ => rfl) ?_
  refine qv_ic dX7_read_155 ?_
  obtain ⟨hr1, h⟩ := h
  refine qv_add dX7_read_156 ?_
  obtain ⟨h1, h2⟩ := h
  refine qv_icmp (t := 213) dX7_read_157 (by decide) (d_ne hx9 hr1) (fun c => ?_) (fun c => ?_)
  · have h := h1 c
    exact h
  · have h := h2 (Decidable.of_not_not c)
    refine qv_g (pc' := 161) (ls' := [some (.ref m), some (.int (iI x1)), l2, l3, some (.int (iI x4)), some (.int (iI x5)), some (.int (iI x6)), some (.int (iI x7)), some (.int (iI x8)), some (.int (iI x9)), l10, l11, l12, l13]) (st' := [.ref m]) dX7_read_160 (fun _ _ => rfl) ?_
    refine qv_getA dX7_read_161 rfl rfl (by decide) ?_
    refine qv_g (pc' := 166) (ls' := [some (.ref m), some (.int (iI x1)), l2, l3, some (.int (iI x4)), some (.int (iI x5)), some (.int (iI x6)), some (.int (iI x7)), some (.int (iI x8)), some (.int (iI x9)), l10, l11, l12, l13]) (st' := [.int (iI x5), .ref (A 13)]) dX7_read_164 (fun _ _ => rfl) ?_
    refine qv_g (pc' := 168) (ls' := [some (.ref m), some (.int (iI x1)), l2, l3, some (.int (iI x4)), some (.int (iI x5)), some (.int (iI x6)), some (.int (iI x7)), some (.int (iI x8)), some (.int (iI x9)), l10, l11, l12, l13]) (st' := [.int (iI x8), .int (iI x5), .ref (A 13)]) dX7_read_166 (fun _ _ => rfl) ?_
    obtain ⟨hr2, h⟩ := h
    refine qv_add dX7_read_168 ?_
    obtain ⟨hr3, h⟩ := h
    refine qv_iald dX7_read_169 (by decide) hr3 (by decide) ?_
    refine qv_bi dX7_read_170 (by decide) ?_
    obtain ⟨h1, h2⟩ := h
    refine qv_icmp (t := 213) dX7_read_172 (by decide) (d_ne (hvv _ _) (by decide)) (fun c => ?_) (fun c => ?_)
    · have h := h1 c
      exact h
    · have h := h2 (Decidable.of_not_not c)
      refine qv_g (pc' := 176) (ls' := [some (.ref m), some (.int (iI x1)), l2, l3, some (.int (iI x4)), some (.int (iI x5)), some (.int (iI x6)), some (.int (iI x7)), some (.int (iI x8)), some (.int (iI x9)), l10, l11, l12, l13]) (st' := [.ref m]) dX7_read_175 (fun _ _ => rfl) ?_
      refine qv_getA dX7_read_176 rfl rfl (by decide) ?_
      refine qv_g (pc' := 181) (ls' := [some (.ref m), some (.int (iI x1)), l2, l3, some (.int (iI x4)), some (.int (iI x5)), some (.int (iI x6)), some (.int (iI x7)), some (.int (iI x8)), some (.int (iI x9)), l10, l11, l12, l13]) (st' := [.int (iI x5), .ref (A 13)]) dX7_read_179 (fun _ _ => rfl) ?_
      refine qv_g (pc' := 183) (ls' := [some (.ref m), some (.int (iI x1)), l2, l3, some (.int (iI x4)), some (.int (iI x5)), some (.int (iI x6)), some (.int (iI x7)), some (.int (iI x8)), some (.int (iI x9)), l10, l11, l12, l13]) (st' := [.int (iI x8), .int (iI x5), .ref (A 13)]) dX7_read_181 (fun _ _ => rfl) ?_
      obtain ⟨hr4, h⟩ := h
      refine qv_add dX7_read_183 ?_
      refine qv_ic dX7_read_184 ?_
      obtain ⟨hr5, h⟩ := h
      refine qv_add dX7_read_185 ?_
      obtain ⟨hr6, h⟩ := h
      refine qv_iald dX7_read_186 (by decide) hr6 (by decide) ?_
      refine qv_bi dX7_read_187 (by decide) ?_
      obtain ⟨h1, h2⟩ := h
      refine qv_icmp (t := 213) dX7_read_189 (by decide) (d_ne (hvv _ _) (by decide)) (fun c => ?_) (fun c => ?_)
      · have h := h1 c
        exact h
      · have h := h2 (Decidable.of_not_not c)
        refine qv_g (pc' := 193) (ls' := [some (.ref m), some (.int (iI x1)), l2, l3, some (.int (iI x4)), some (.int (iI x5)), some (.int (iI x6)), some (.int (iI x7)), some (.int (iI x8)), some (.int (iI x9)), l10, l11, l12, l13]) (st' := [.ref m]) dX7_read_192 (fun _ _ => rfl) ?_
        refine qv_getA dX7_read_193 rfl rfl (by decide) ?_
        refine qv_g (pc' := 198) (ls' := [some (.ref m), some (.int (iI x1)), l2, l3, some (.int (iI x4)), some (.int (iI x5)), some (.int (iI x6)), some (.int (iI x7)), some (.int (iI x8)), some (.int (iI x9)), l10, l11, l12, l13]) (st' := [.int (iI x5), .ref (A 13)]) dX7_read_196 (fun _ _ => rfl) ?_
        refine qv_g (pc' := 200) (ls' := [some (.ref m), some (.int (iI x1)), l2, l3, some (.int (iI x4)), some (.int (iI x5)), some (.int (iI x6)), some (.int (iI x7)), some (.int (iI x8)), some (.int (iI x9)), l10, l11, l12, l13]) (st' := [.int (iI x8), .int (iI x5), .ref (A 13)]) dX7_read_198 (fun _ _ => rfl) ?_
        obtain ⟨hr7, h⟩ := h
        refine qv_add dX7_read_200 ?_
        refine qv_ic dX7_read_201 ?_
        obtain ⟨hr8, h⟩ := h
        refine qv_add dX7_read_202 ?_
        obtain ⟨hr9, h⟩ := h
        refine qv_iald dX7_read_203 (by decide) hr9 (by decide) ?_
        refine qv_bi dX7_read_204 (by decide) ?_
        obtain ⟨h1, h2⟩ := h
        refine qv_icmp (t := 213) dX7_read_206 (by decide) (d_ne (hvv _ _) (by decide)) (fun c => ?_) (fun c => ?_)
        · have h := h1 c
          exact h
        · have h := h2 (Decidable.of_not_not c)
          refine qv_ic dX7_read_209 ?_
          refine qv_goto (t := 214) dX7_read_210 (by decide) ?_
          exact h
theorem v110_213 {v : VS} {Q : Rs → VS → Prop} {x1 : Int} {l2 : Option Value} {l3 : Option Value} {x4 : Int} {x5 : Int} {x6 : Int} {x7 : Int} {x8 : Int} {x9 : Int} {l10 : Option Value} {l11 : Option Value} {l12 : Option Value} {l13 : Option Value}
    (h : RW g C S m A 110 214 [some (.ref m), some (.int (iI x1)), l2, l3, some (.int (iI x4)), some (.int (iI x5)), some (.int (iI x6)), some (.int (iI x7)), some (.int (iI x8)), some (.int (iI x9)), l10, l11, l12, l13] [.int (iI 0)] v Q) (hx1 : (-2147483648 : Int) ≤ x1 ∧ x1 ≤ 2147483647 := by omega) (hx4 : (-2147483648 : Int) ≤ x4 ∧ x4 ≤ 2147483647 := by omega) (hx5 : (-2147483648 : Int) ≤ x5 ∧ x5 ≤ 2147483647 := by omega) (hx6 : (-2147483648 : Int) ≤ x6 ∧ x6 ≤ 2147483647 := by omega) (hx7 : (-2147483648 : Int) ≤ x7 ∧ x7 ≤ 2147483647 := by omega) (hx8 : (-2147483648 : Int) ≤ x8 ∧ x8 ≤ 2147483647 := by omega) (hx9 : (-2147483648 : Int) ≤ x9 ∧ x9 ≤ 2147483647 := by omega) :
    RW g C S m A 110 213 [some (.ref m), some (.int (iI x1)), l2, l3, some (.int (iI x4)), some (.int (iI x5)), some (.int (iI x6)), some (.int (iI x7)), some (.int (iI x8)), some (.int (iI x9)), l10, l11, l12, l13] [] v Q := by
  refine qv_R (fun hvv => ?_)
  refine qv_ic dX7_read_213 ?_
  exact h
theorem v110_214 {v : VS} {Q : Rs → VS → Prop} {x1 : Int} {l2 : Option Value} {l3 : Option Value} {x4 : Int} {x5 : Int} {x6 : Int} {x7 : Int} {x8 : Int} {x9 : Int} {l10 : Option Value} {l11 : Option Value} {l12 : Option Value} {l13 : Option Value} {u0 : Int}
    (h : (u0 = 0 → RW g C S m A 110 252 [some (.ref m), some (.int (iI x1)), l2, l3, some (.int (iI x4)), some (.int (iI x5)), some (.int (iI x6)), some (.int (iI x7)), some (.int (iI x8)), some (.int (iI x9)), some (.int (iI u0)), some (.int (iI x8)), some (.int (iI x8)), l13] [] v Q) ∧ (¬ u0 = 0 → RW g C S m A 109 0 [some (.ref m), some (.int (iI x1)), some (.int (iI x6)), some (.int (iI x7)), none, none, none, none, none, none] [] v (VK g C S m A 110 230 [some (.ref m), some (.int (iI x1)), l2, l3, some (.int (iI x4)), some (.int (iI x5)), some (.int (iI x6)), some (.int (iI x7)), some (.int (iI x8)), some (.int (iI x9)), some (.int (iI u0)), l11, l12, l13] [] Q))) (hx1 : (-2147483648 : Int) ≤ x1 ∧ x1 ≤ 2147483647 := by omega) (hx4 : (-2147483648 : Int) ≤ x4 ∧ x4 ≤ 2147483647 := by omega) (hx5 : (-2147483648 : Int) ≤ x5 ∧ x5 ≤ 2147483647 := by omega) (hx6 : (-2147483648 : Int) ≤ x6 ∧ x6 ≤ 2147483647 := by omega) (hx7 : (-2147483648 : Int) ≤ x7 ∧ x7 ≤ 2147483647 := by omega) (hx8 : (-2147483648 : Int) ≤ x8 ∧ x8 ≤ 2147483647 := by omega) (hx9 : (-2147483648 : Int) ≤ x9 ∧ x9 ≤ 2147483647 := by omega) (hu0 : (-2147483648 : Int) ≤ u0 ∧ u0 ≤ 2147483647 := by omega) :
    RW g C S m A 110 214 [some (.ref m), some (.int (iI x1)), l2, l3, some (.int (iI x4)), some (.int (iI x5)), some (.int (iI x6)), some (.int (iI x7)), some (.int (iI x8)), some (.int (iI x9)), l10, l11, l12, l13] [.int (iI u0)] v Q := by
  refine qv_R (fun hvv => ?_)
  refine qv_g (pc' := 216) (ls' := [some (.ref m), some (.int (iI x1)), l2, l3, some (.int (iI x4)), some (.int (iI x5)), some (.int (iI x6)), some (.int (iI x7)), some (.int (iI x8)), some (.int (iI x9)), some (.int (iI u0)), l11, l12, l13]) (st' := []) dX7_read_214 (fun _ _ => rfl) ?_
  refine qv_g (pc' := 218) (ls' := [some (.ref m), some (.int (iI x1)), l2, l3, some (.int (iI x4)), some (.int (iI x5)), some (.int (iI x6)), some (.int (iI x7)), some (.int (iI x8)), some (.int (iI x9)), some (.int (iI u0)), l11, l12, l13]) (st' := [.int (iI u0)]) dX7_read_216 (fun _ _ => rfl) ?_
  obtain ⟨h1, h2⟩ := h
  refine qv_if (t := 244) dX7_read_218 (by decide) (d_eq hu0 (by decide)) (fun c => ?_) (fun c => ?_)
  · have h := h1 c
    refine qv_g (pc' := 246) (ls' := [some (.ref m), some (.int (iI x1)), l2, l3, some (.int (iI x4)), some (.int (iI x5)), some (.int (iI x6)), some (.int (iI x7)), some (.int (iI x8)), some (.int (iI x9)), some (.int (iI u0)), l11, l12, l13]) (st' := [.int (iI x8)]) dX7_read_244 (fun _ _ => rfl) ?_
    refine qv_g (pc' := 248) (ls' := [some (.ref m), some (.int (iI x1)), l2, l3, some (.int (iI x4)), some (.int (iI x5)), some (.int (iI x6)), some (.int (iI x7)), some (.int (iI x8)), some (.int (iI x9)), some (.int (iI u0)), some (.int (iI x8)), l12, l13]) (st' := []) dX7_read_246 (fun _ _ => rfl) ?_
    refine qv_g (pc' := 250) (ls' := [some (.ref m), some (.int (iI x1)), l2, l3, some (.int (iI x4)), some (.int (iI x5)), some (.int (iI x6)), some (.int (iI x7)), some (.int (iI x8)), some (.int (iI x9)), some (.int (iI u0)), some (.int (iI x8)), l12, l13]) (st' := [.int (iI x8)]) dX7_read_248 (fun _ _ => rfl) ?_
    refine qv_g (pc' := 252) (ls' := [some (.ref m), some (.int (iI x1)), l2, l3, some (.int (iI x4)), some (.int (iI x5)), some (.int (iI x6)), some (.int (iI x7)), some (.int (iI x8)), some (.int (iI x9)), some (.int (iI u0)), some (.int (iI x8)), some (.int (iI x8)), l13]) (st' := []) dX7_read_250 (fun _ _ => rfl) ?_
    exact h
  · have h := h2 c
    refine qv_g (pc' := 222) (ls' := [some (.ref m), some (.int (iI x1)), l2, l3, some (.int (iI x4)), some (.int (iI x5)), some (.int (iI x6)), some (.int (iI x7)), some (.int (iI x8)), some (.int (iI x9)), some (.int (iI u0)), l11, l12, l13]) (st' := [.ref m]) dX7_read_221 (fun _ _ => rfl) ?_
    refine qv_g (pc' := 223) (ls' := [some (.ref m), some (.int (iI x1)), l2, l3, some (.int (iI x4)), some (.int (iI x5)), some (.int (iI x6)), some (.int (iI x7)), some (.int (iI x8)), some (.int (iI x9)), some (.int (iI u0)), l11, l12, l13]) (st' := [.int (iI x1), .ref m]) dX7_read_222 (fun _ _ => rfl) ?_
    refine qv_g (pc' := 225) (ls' := [some (.ref m), some (.int (iI x1)), l2, l3, some (.int (iI x4)), some (.int (iI x5)), some (.int (iI x6)), some (.int (iI x7)), some (.int (iI x8)), some (.int (iI x9)), some (.int (iI u0)), l11, l12, l13]) (st' := [.int (iI x6), .int (iI x1), .ref m]) dX7_read_223 (fun _ _ => rfl) ?_
    refine qv_g (pc' := 227) (ls' := [some (.ref m), some (.int (iI x1)), l2, l3, some (.int (iI x4)), some (.int (iI x5)), some (.int (iI x6)), some (.int (iI x7)), some (.int (iI x8)), some (.int (iI x9)), some (.int (iI u0)), l11, l12, l13]) (st' := [.int (iI x7), .int (iI x6), .int (iI x1), .ref m]) dX7_read_225 (fun _ _ => rfl) ?_
    exact qv_call dX7_read_227 (fun _ _ => ex_calV rfl (by decide)) rfl (Nat.le_of_ble_eq_true rfl) (Nat.le_of_ble_eq_true rfl) (Nat.le_of_ble_eq_true rfl) (fun _ hm => rcv0 rfl rfl (by decide) hm) rfl rfl rfl h
theorem v110_230 {v : VS} {Q : Rs → VS → Prop} {x1 : Int} {l2 : Option Value} {l3 : Option Value} {x4 : Int} {x5 : Int} {l6 : Option Value} {l7 : Option Value} {l8 : Option Value} {x9 : Int} {l10 : Option Value} {l11 : Option Value} {l12 : Option Value} {l13 : Option Value}
    (h : ((0 : Int) ≤ x1 ∧ (x1 : Int) < 2) ∧ RW g C S m A 110 356 [some (.ref m), some (.int (iI x1)), l2, l3, some (.int (iI x4)), some (.int (iI x5)), some (.int (iI (v 14 x1))), some (.int (iI (-1))), l8, some (.int (iI x9)), l10, l11, l12, l13] [] v Q) (hx1 : (-2147483648 : Int) ≤ x1 ∧ x1 ≤ 2147483647 := by omega) (hx4 : (-2147483648 : Int) ≤ x4 ∧ x4 ≤ 2147483647 := by omega) (hx5 : (-2147483648 : Int) ≤ x5 ∧ x5 ≤ 2147483647 := by omega) (hx9 : (-2147483648 : Int) ≤ x9 ∧ x9 ≤ 2147483647 := by omega) :
    RW g C S m A 110 230 [some (.ref m), some (.int (iI x1)), l2, l3, some (.int (iI x4)), some (.int (iI x5)), l6, l7, l8, some (.int (iI x9)), l10, l11, l12, l13] [] v Q := by
  refine qv_R (fun hvv => ?_)
  refine qv_g (pc' := 231) (ls' := [some (.ref m), some (.int (iI x1)), l2, l3, some (.int (iI x4)), some (.int (iI x5)), l6, l7, l8, some (.int (iI x9)), l10, l11, l12, l13]) (st' := [.ref m]) dX7_read_230 (fun _ _ => rfl) ?_
  refine qv_getA dX7_read_231 rfl rfl (by decide) ?_
  refine qv_g (pc' := 235) (ls' := [some (.ref m), some (.int (iI x1)), l2, l3, some (.int (iI x4)), some (.int (iI x5)), l6, l7, l8, some (.int (iI x9)), l10, l11, l12, l13]) (st' := [.int (iI x1), .ref (A 14)]) dX7_read_234 (fun _ _ => rfl) ?_
  obtain ⟨hr1, h⟩ := h
  refine qv_iald dX7_read_235 (by decide) hr1 (by decide) ?_
  refine qv_g (pc' := 238) (ls' := [some (.ref m), some (.int (iI x1)), l2, l3, some (.int (iI x4)), some (.int (iI x5)), some (.int (iI (v 14 x1))), l7, l8, some (.int (iI x9)), l10, l11, l12, l13]) (st' := []) dX7_read_236 (fun _ _ => rfl) ?_
  refine qv_ic dX7_read_238 ?_
  refine qv_g (pc' := 241) (ls' := [some (.ref m), some (.int (iI x1)), l2, l3, some (.int (iI x4)), some (.int (iI x5)), some (.int (iI (v 14 x1))), some (.int (iI (-1))), l8, some (.int (iI x9)), l10, l11, l12, l13]) (st' := []) dX7_read_239 (fun _ _ => rfl) ?_
  refine qv_goto (t := 356) dX7_read_241 (by decide) ?_
  exact h
theorem v110_252 {v : VS} {Q : Rs → VS → Prop} {x1 : Int} {l2 : Option Value} {l3 : Option Value} {x4 : Int} {x5 : Int} {x6 : Int} {x7 : Int} {l8 : Option Value} {x9 : Int} {l10 : Option Value} {x11 : Int} {x12 : Int} {l13 : Option Value}
    (h : (x9 < x12 → RW g C S m A 110 356 [some (.ref m), some (.int (iI x1)), l2, l3, some (.int (iI x4)), some (.int (iI x5)), some (.int (iI x6)), some (.int (iI x7)), l8, some (.int (iI x9)), l10, some (.int (iI x11)), some (.int (iI x12)), l13] [] v Q) ∧ (x12 ≤ x9 → (x9 ≤ x12 → RW g C S m A 110 285 [some (.ref m), some (.int (iI x1)), l2, l3, some (.int (iI x4)), some (.int (iI x5)), some (.int (iI x6)), some (.int (iI x7)), l8, some (.int (iI x9)), l10, some (.int (iI x11)), some (.int (iI x12)), l13] [] v Q) ∧ (x12 < x9 → ((-2147483648 : Int) ≤ x5 + x12 ∧ x5 + x12 ≤ 2147483647) ∧ ((0 : Int) ≤ x5 + x12 ∧ (x5 + x12 : Int) < 160) ∧ (¬ v 13 (x5 + x12) = 44 → RW g C S m A 110 285 [some (.ref m), some (.int (iI x1)), l2, l3, some (.int (iI x4)), some (.int (iI x5)), some (.int (iI x6)), some (.int (iI x7)), l8, some (.int (iI x9)), l10, some (.int (iI x11)), some (.int (iI x12)), l13] [] v Q) ∧ (v 13 (x5 + x12) = 44 → RW g C S m A 110 286 [some (.ref m), some (.int (iI x1)), l2, l3, some (.int (iI x4)), some (.int (iI x5)), some (.int (iI x6)), some (.int (iI x7)), l8, some (.int (iI x9)), l10, some (.int (iI x11)), some (.int (iI x12)), l13] [.int (iI 1)] v Q)))) (hx1 : (-2147483648 : Int) ≤ x1 ∧ x1 ≤ 2147483647 := by omega) (hx4 : (-2147483648 : Int) ≤ x4 ∧ x4 ≤ 2147483647 := by omega) (hx5 : (-2147483648 : Int) ≤ x5 ∧ x5 ≤ 2147483647 := by omega) (hx6 : (-2147483648 : Int) ≤ x6 ∧ x6 ≤ 2147483647 := by omega) (hx7 : (-2147483648 : Int) ≤ x7 ∧ x7 ≤ 2147483647 := by omega) (hx9 : (-2147483648 : Int) ≤ x9 ∧ x9 ≤ 2147483647 := by omega) (hx11 : (-2147483648 : Int) ≤ x11 ∧ x11 ≤ 2147483647 := by omega) (hx12 : (-2147483648 : Int) ≤ x12 ∧ x12 ≤ 2147483647 := by omega) :
    RW g C S m A 110 252 [some (.ref m), some (.int (iI x1)), l2, l3, some (.int (iI x4)), some (.int (iI x5)), some (.int (iI x6)), some (.int (iI x7)), l8, some (.int (iI x9)), l10, some (.int (iI x11)), some (.int (iI x12)), l13] [] v Q := by
  refine qv_R (fun hvv => ?_)
  refine qv_g (pc' := 254) (ls' := [some (.ref m), some (.int (iI x1)), l2, l3, some (.int (iI x4)), some (.int (iI x5)), some (.int (iI x6)), some (.int (iI x7)), l8, some (.int (iI x9)), l10, some (.int (iI x11)), some (.int (iI x12)), l13]) (st' := [.int (iI x12)]) dX7_read_252 (fun _ _ => rfl) ?_
  refine qv_g (pc' := 256) (ls' := [some (.ref m), some (.int (iI x1)), l2, l3, some (.int (iI x4)), some (.int (iI x5)), some (.int (iI x6)), some (.int (iI x7)), l8, some (.int (iI x9)), l10, some (.int (iI x11)), some (.int (iI x12)), l13]) (st' := [.int (iI x9), .int (iI x12)]) dX7_read_254 (fun _ _ => rfl) ?_
  obtain ⟨h1, h2⟩ := h
  refine qv_icmp (t := 356) dX7_read_256 (by decide) (d_gt hx12 hx9) (fun c => ?_) (fun c => ?_)
  · have h := h1 c
    exact h
  · have h := h2 (Int.not_lt.mp c)
    refine qv_g (pc' := 261) (ls' := [some (.ref m), some (.int (iI x1)), l2, l3, some (.int (iI x4)), some (.int (iI x5)), some (.int (iI x6)), some (.int (iI x7)), l8, some (.int (iI x9)), l10, some (.int (iI x11)), some (.int (iI x12)), l13]) (st' := [.int (iI x12)]) dX7_read_259 (fun _ _ => rfl) ?_
    refine qv_g (pc' := 263) (ls' := [some (.ref m), some (.int (iI x1)), l2, l3, some (.int (iI x4)), some (.int (iI x5)), some (.int (iI x6)), some (.int (iI x7)), l8, some (.int (iI x9)), l10, some (.int (iI x11)), some (.int (iI x12)), l13]) (st' := [.int (iI x9), .int (iI x12)]) dX7_read_261 (fun _ _ => rfl) ?_
    obtain ⟨h1, h2⟩ := h
    refine qv_icmp (t := 285) dX7_read_263 (by decide) (d_ge hx12 hx9) (fun c => ?_) (fun c => ?_)
    · have h := h1 c
      exact h
    · have h := h2 (Int.not_le.mp c)
      refine qv_g (pc' := 267) (ls' := [some (.ref m), some (.int (iI x1)), l2, l3, some (.int (iI x4)), some (.int (iI x5)), some (.int (iI x6)), some (.int (iI x7)), l8, some (.int (iI x9)), l10, some (.int (iI x11)), some (.int (iI x12)), l13]) (st' := [.ref m]) dX7_read_266 (fun _ _ => rfl) ?_
      refine qv_getA dX7_read_267 rfl rfl (by decide) ?_
      refine qv_g (pc' := 272) (ls' := [some (.ref m), some (.int (iI x1)), l2, l3, some (.int (iI x4)), some (.int (iI x5)), some (.int (iI x6)), some (.int (iI x7)), l8, some (.int (iI x9)), l10, some (.int (iI x11)), some (.int (iI x12)), l13]) (st' := [.int (iI x5), .ref (A 13)]) dX7_read_270 (fun _ _ => rfl) ?_
      refine qv_g (pc' := 274) (ls' := [some (.ref m), some (.int (iI x1)), l2, l3, some (.int (iI x4)), some (.int (iI x5)), some (.int (iI x6)), some (.int (iI x7)), l8, some (.int (iI x9)), l10, some (.int (iI x11)), some (.int (iI x12)), l13]) (st' := [.int (iI x12), .int (iI x5), .ref (A 13)]) dX7_read_272 (fun _ _ => rfl) ?_
      obtain ⟨hr1, h⟩ := h
      refine qv_add dX7_read_274 ?_
      obtain ⟨hr2, h⟩ := h
      refine qv_iald dX7_read_275 (by decide) hr2 (by decide) ?_
      refine qv_bi dX7_read_276 (by decide) ?_
      obtain ⟨h1, h2⟩ := h
      refine qv_icmp (t := 285) dX7_read_278 (by decide) (d_ne (hvv _ _) (by decide)) (fun c => ?_) (fun c => ?_)
      · have h := h1 c
        exact h
      · have h := h2 (Decidable.of_not_not c)
        refine qv_ic dX7_read_281 ?_
        refine qv_goto (t := 286) dX7_read_282 (by decide) ?_
        exact h
theorem v110_285 {v : VS} {Q : Rs → VS → Prop} {x1 : Int} {l2 : Option Value} {l3 : Option Value} {x4 : Int} {x5 : Int} {x6 : Int} {x7 : Int} {l8 : Option Value} {x9 : Int} {l10 : Option Value} {x11 : Int} {x12 : Int} {l13 : Option Value}
    (h : RW g C S m A 110 286 [some (.ref m), some (.int (iI x1)), l2, l3, some (.int (iI x4)), some (.int (iI x5)), some (.int (iI x6)), some (.int (iI x7)), l8, some (.int (iI x9)), l10, some (.int (iI x11)), some (.int (iI x12)), l13] [.int (iI 0)] v Q) (hx1 : (-2147483648 : Int) ≤ x1 ∧ x1 ≤ 2147483647 := by omega) (hx4 : (-2147483648 : Int) ≤ x4 ∧ x4 ≤ 2147483647 := by omega) (hx5 : (-2147483648 : Int) ≤ x5 ∧ x5 ≤ 2147483647 := by omega) (hx6 : (-2147483648 : Int) ≤ x6 ∧ x6 ≤ 2147483647 := by omega) (hx7 : (-2147483648 : Int) ≤ x7 ∧ x7 ≤ 2147483647 := by omega) (hx9 : (-2147483648 : Int) ≤ x9 ∧ x9 ≤ 2147483647 := by omega) (hx11 : (-2147483648 : Int) ≤ x11 ∧ x11 ≤ 2147483647 := by omega) (hx12 : (-2147483648 : Int) ≤ x12 ∧ x12 ≤ 2147483647 := by omega) :
    RW g C S m A 110 285 [some (.ref m), some (.int (iI x1)), l2, l3, some (.int (iI x4)), some (.int (iI x5)), some (.int (iI x6)), some (.int (iI x7)), l8, some (.int (iI x9)), l10, some (.int (iI x11)), some (.int (iI x12)), l13] [] v Q := by
  refine qv_R (fun hvv => ?_)
  refine qv_ic dX7_read_285 ?_
  exact h
theorem v110_286 {v : VS} {Q : Rs → VS → Prop} {x1 : Int} {l2 : Option Value} {l3 : Option Value} {x4 : Int} {x5 : Int} {x6 : Int} {x7 : Int} {l8 : Option Value} {x9 : Int} {l10 : Option Value} {x11 : Int} {x12 : Int} {l13 : Option Value} {u0 : Int}
    (h : (¬ u0 = 0 → RW g C S m A 110 300 [some (.ref m), some (.int (iI x1)), l2, l3, some (.int (iI x4)), some (.int (iI x5)), some (.int (iI x6)), some (.int (iI x7)), l8, some (.int (iI x9)), l10, some (.int (iI x11)), some (.int (iI x12)), some (.int (iI u0))] [] v Q) ∧ (u0 = 0 → (¬ x12 = x9 → RW g C S m A 110 328 [some (.ref m), some (.int (iI x1)), l2, l3, some (.int (iI x4)), some (.int (iI x5)), some (.int (iI x6)), some (.int (iI x7)), l8, some (.int (iI x9)), l10, some (.int (iI x11)), some (.int (iI x12)), some (.int (iI u0))] [] v Q) ∧ (x12 = x9 → RW g C S m A 110 300 [some (.ref m), some (.int (iI x1)), l2, l3, some (.int (iI x4)), some (.int (iI x5)), some (.int (iI x6)), some (.int (iI x7)), l8, some (.int (iI x9)), l10, some (.int (iI x11)), some (.int (iI x12)), some (.int (iI u0))] [] v Q))) (hx1 : (-2147483648 : Int) ≤ x1 ∧ x1 ≤ 2147483647 := by omega) (hx4 : (-2147483648 : Int) ≤ x4 ∧ x4 ≤ 2147483647 := by omega) (hx5 : (-2147483648 : Int) ≤ x5 ∧ x5 ≤ 2147483647 := by omega) (hx6 : (-2147483648 : Int) ≤ x6 ∧ x6 ≤ 2147483647 := by omega) (hx7 : (-2147483648 : Int) ≤ x7 ∧ x7 ≤ 2147483647 := by omega) (hx9 : (-2147483648 : Int) ≤ x9 ∧ x9 ≤ 2147483647 := by omega) (hx11 : (-2147483648 : Int) ≤ x11 ∧ x11 ≤ 2147483647 := by omega) (hx12 : (-2147483648 : Int) ≤ x12 ∧ x12 ≤ 2147483647 := by omega) (hu0 : (-2147483648 : Int) ≤ u0 ∧ u0 ≤ 2147483647 := by omega) :
    RW g C S m A 110 286 [some (.ref m), some (.int (iI x1)), l2, l3, some (.int (iI x4)), some (.int (iI x5)), some (.int (iI x6)), some (.int (iI x7)), l8, some (.int (iI x9)), l10, some (.int (iI x11)), some (.int (iI x12)), l13] [.int (iI u0)] v Q := by
  refine qv_R (fun hvv => ?_)
  refine qv_g (pc' := 288) (ls' := [some (.ref m), some (.int (iI x1)), l2, l3, some (.int (iI x4)), some (.int (iI x5)), some (.int (iI x6)), some (.int (iI x7)), l8, some (.int (iI x9)), l10, some (.int (iI x11)), some (.int (iI x12)), some (.int (iI u0))]) (st' := []) dX7_read_286 (fun _ _ => rfl) ?_
  refine qv_g (pc' := 290) (ls' := [some (.ref m), some (.int (iI x1)), l2, l3, some (.int (iI x4)), some (.int (iI x5)), some (.int (iI x6)), some (.int (iI x7)), l8, some (.int (iI x9)), l10, some (.int (iI x11)), some (.int (iI x12)), some (.int (iI u0))]) (st' := [.int (iI u0)]) dX7_read_288 (fun _ _ => rfl) ?_
  obtain ⟨h1, h2⟩ := h
  refine qv_if (t := 300) dX7_read_290 (by decide) (d_ne hu0 (by decide)) (fun c => ?_) (fun c => ?_)
  · have h := h1 c
    exact h
  · have h := h2 (Decidable.of_not_not c)
    refine qv_g (pc' := 295) (ls' := [some (.ref m), some (.int (iI x1)), l2, l3, some (.int (iI x4)), some (.int (iI x5)), some (.int (iI x6)), some (.int (iI x7)), l8, some (.int (iI x9)), l10, some (.int (iI x11)), some (.int (iI x12)), some (.int (iI u0))]) (st' := [.int (iI x12)]) dX7_read_293 (fun _ _ => rfl) ?_
    refine qv_g (pc' := 297) (ls' := [some (.ref m), some (.int (iI x1)), l2, l3, some (.int (iI x4)), some (.int (iI x5)), some (.int (iI x6)), some (.int (iI x7)), l8, some (.int (iI x9)), l10, some (.int (iI x11)), some (.int (iI x12)), some (.int (iI u0))]) (st' := [.int (iI x9), .int (iI x12)]) dX7_read_295 (fun _ _ => rfl) ?_
    obtain ⟨h1, h2⟩ := h
    refine qv_icmp (t := 328) dX7_read_297 (by decide) (d_ne hx12 hx9) (fun c => ?_) (fun c => ?_)
    · have h := h1 c
      exact h
    · have h := h2 (Decidable.of_not_not c)
      exact h
theorem v110_300 {v : VS} {Q : Rs → VS → Prop} {x1 : Int} {l2 : Option Value} {l3 : Option Value} {x4 : Int} {x5 : Int} {x6 : Int} {x7 : Int} {l8 : Option Value} {x9 : Int} {l10 : Option Value} {x11 : Int} {x12 : Int} {x13 : Int}
    (h : (x12 ≤ x11 → RW g C S m A 110 322 [some (.ref m), some (.int (iI x1)), l2, l3, some (.int (iI x4)), some (.int (iI x5)), some (.int (iI x6)), some (.int (iI x7)), l8, some (.int (iI x9)), l10, some (.int (iI x11)), some (.int (iI x12)), some (.int (iI x13))] [] v Q) ∧ (x11 < x12 → ((-2147483648 : Int) ≤ x5 + x11 ∧ x5 + x11 ≤ 2147483647) ∧ ((-2147483648 : Int) ≤ x5 + x12 ∧ x5 + x12 ≤ 2147483647) ∧ RW g C S m A 108 0 [some (.ref m), some (.int (iI x1)), some (.int (iI (x5 + x11))), some (.int (iI (x5 + x12))), none] [] v (VK g C S m A 110 322 [some (.ref m), some (.int (iI x1)), l2, l3, some (.int (iI x4)), some (.int (iI x5)), some (.int (iI x6)), some (.int (iI x7)), l8, some (.int (iI x9)), l10, some (.int (iI x11)), some (.int (iI x12)), some (.int (iI x13))] [] Q))) (hx1 : (-2147483648 : Int) ≤ x1 ∧ x1 ≤ 2147483647 := by omega) (hx4 : (-2147483648 : Int) ≤ x4 ∧ x4 ≤ 2147483647 := by omega) (hx5 : (-2147483648 : Int) ≤ x5 ∧ x5 ≤ 2147483647 := by omega) (hx6 : (-2147483648 : Int) ≤ x6 ∧ x6 ≤ 2147483647 := by omega) (hx7 : (-2147483648 : Int) ≤ x7 ∧ x7 ≤ 2147483647 := by omega) (hx9 : (-2147483648 : Int) ≤ x9 ∧ x9 ≤ 2147483647 := by omega) (hx11 : (-2147483648 : Int) ≤ x11 ∧ x11 ≤ 2147483647 := by omega) (hx12 : (-2147483648 : Int) ≤ x12 ∧ x12 ≤ 2147483647 := by omega) (hx13 : (-2147483648 : Int) ≤ x13 ∧ x13 ≤ 2147483647 := by omega) :
    RW g C S m A 110 300 [some (.ref m), some (.int (iI x1)), l2, l3, some (.int (iI x4)), some (.int (iI x5)), some (.int (iI x6)), some (.int (iI x7)), l8, some (.int (iI x9)), l10, some (.int (iI x11)), some (.int (iI x12)), some (.int (iI x13))] [] v Q := by
  refine qv_R (fun hvv => ?_)
  refine qv_g (pc' := 302) (ls' := [some (.ref m), some (.int (iI x1)), l2, l3, some (.int (iI x4)), some (.int (iI x5)), some (.int (iI x6)), some (.int (iI x7)), l8, some (.int (iI x9)), l10, some (.int (iI x11)), some (.int (iI x12)), some (.int (iI x13))]) (st' := [.int (iI x12)]) dX7_read_300 (fun _ _ => rfl) ?_
  refine qv_g (pc' := 304) (ls' := [some (.ref m), some (.int (iI x1)), l2, l3, some (.int (iI x4)), some (.int (iI x5)), some (.int (iI x6)), some (.int (iI x7)), l8, some (.int (iI x9)), l10, some (.int (iI x11)), some (.int (iI x12)), some (.int (iI x13))]) (st' := [.int (iI x11), .int (iI x12)]) dX7_read_302 (fun _ _ => rfl) ?_
  obtain ⟨h1, h2⟩ := h
  refine qv_icmp (t := 322) dX7_read_304 (by decide) (d_le hx12 hx11) (fun c => ?_) (fun c => ?_)
  · have h := h1 c
    exact h
  · have h := h2 (Int.not_le.mp c)
    refine qv_g (pc' := 308) (ls' := [some (.ref m), some (.int (iI x1)), l2, l3, some (.int (iI x4)), some (.int (iI x5)), some (.int (iI x6)), some (.int (iI x7)), l8, some (.int (iI x9)), l10, some (.int (iI x11)), some (.int (iI x12)), some (.int (iI x13))]) (st' := [.ref m]) dX7_read_307 (fun _ _ => rfl) ?_
    refine qv_g (pc' := 309) (ls' := [some (.ref m), some (.int (iI x1)), l2, l3, some (.int (iI x4)), some (.int (iI x5)), some (.int (iI x6)), some (.int (iI x7)), l8, some (.int (iI x9)), l10, some (.int (iI x11)), some (.int (iI x12)), some (.int (iI x13))]) (st' := [.int (iI x1), .ref m]) dX7_read_308 (fun _ _ => rfl) ?_
    refine qv_g (pc' := 311) (ls' := [some (.ref m), some (.int (iI x1)), l2, l3, some (.int (iI x4)), some (.int (iI x5)), some (.int (iI x6)), some (.int (iI x7)), l8, some (.int (iI x9)), l10, some (.int (iI x11)), some (.int (iI x12)), some (.int (iI x13))]) (st' := [.int (iI x5), .int (iI x1), .ref m]) dX7_read_309 (fun _ _ => rfl) ?_
    refine qv_g (pc' := 313) (ls' := [some (.ref m), some (.int (iI x1)), l2, l3, some (.int (iI x4)), some (.int (iI x5)), some (.int (iI x6)), some (.int (iI x7)), l8, some (.int (iI x9)), l10, some (.int (iI x11)), some (.int (iI x12)), some (.int (iI x13))]) (st' := [.int (iI x11), .int (iI x5), .int (iI x1), .ref m]) dX7_read_311 (fun _ _ => rfl) ?_
    obtain ⟨hr1, h⟩ := h
    refine qv_add dX7_read_313 ?_
    refine qv_g (pc' := 316) (ls' := [some (.ref m), some (.int (iI x1)), l2, l3, some (.int (iI x4)), some (.int (iI x5)), some (.int (iI x6)), some (.int (iI x7)), l8, some (.int (iI x9)), l10, some (.int (iI x11)), some (.int (iI x12)), some (.int (iI x13))]) (st' := [.int (iI x5), .int (iI (x5 + x11)), .int (iI x1), .ref m]) dX7_read_314 (fun _ _ => rfl) ?_
    refine qv_g (pc' := 318) (ls' := [some (.ref m), some (.int (iI x1)), l2, l3, some (.int (iI x4)), some (.int (iI x5)), some (.int (iI x6)), some (.int (iI x7)), l8, some (.int (iI x9)), l10, some (.int (iI x11)), some (.int (iI x12)), some (.int (iI x13))]) (st' := [.int (iI x12), .int (iI x5), .int (iI (x5 + x11)), .int (iI x1), .ref m]) dX7_read_316 (fun _ _ => rfl) ?_
    obtain ⟨hr2, h⟩ := h
    refine qv_add dX7_read_318 ?_
    exact qv_call dX7_read_319 (fun _ _ => ex_calV rfl (by decide)) rfl (Nat.le_of_ble_eq_true rfl) (Nat.le_of_ble_eq_true rfl) (Nat.le_of_ble_eq_true rfl) (fun _ hm => rcv0 rfl rfl (by decide) hm) rfl rfl rfl h
theorem v110_322 {v : VS} {Q : Rs → VS → Prop} {x1 : Int} {l2 : Option Value} {l3 : Option Value} {x4 : Int} {x5 : Int} {x6 : Int} {x7 : Int} {l8 : Option Value} {x9 : Int} {l10 : Option Value} {l11 : Option Value} {x12 : Int} {x13 : Int}
    (h : ((-2147483648 : Int) ≤ x12 + 1 ∧ x12 + 1 ≤ 2147483647) ∧ RW g C S m A 110 328 [some (.ref m), some (.int (iI x1)), l2, l3, some (.int (iI x4)), some (.int (iI x5)), some (.int (iI x6)), some (.int (iI x7)), l8, some (.int (iI x9)), (clr l10), some (.int (iI (x12 + 1))), some (.int (iI x12)), some (.int (iI x13))] [] v Q) (hx1 : (-2147483648 : Int) ≤ x1 ∧ x1 ≤ 2147483647 := by omega) (hx4 : (-2147483648 : Int) ≤ x4 ∧ x4 ≤ 2147483647 := by omega) (hx5 : (-2147483648 : Int) ≤ x5 ∧ x5 ≤ 2147483647 := by omega) (hx6 : (-2147483648 : Int) ≤ x6 ∧ x6 ≤ 2147483647 := by omega) (hx7 : (-2147483648 : Int) ≤ x7 ∧ x7 ≤ 2147483647 := by omega) (hx9 : (-2147483648 : Int) ≤ x9 ∧ x9 ≤ 2147483647 := by omega) (hx12 : (-2147483648 : Int) ≤ x12 ∧ x12 ≤ 2147483647 := by omega) (hx13 : (-2147483648 : Int) ≤ x13 ∧ x13 ≤ 2147483647 := by omega) :
    RW g C S m A 110 322 [some (.ref m), some (.int (iI x1)), l2, l3, some (.int (iI x4)), some (.int (iI x5)), some (.int (iI x6)), some (.int (iI x7)), l8, some (.int (iI x9)), l10, l11, some (.int (iI x12)), some (.int (iI x13))] [] v Q := by
  refine qv_R (fun hvv => ?_)
  refine qv_g (pc' := 324) (ls' := [some (.ref m), some (.int (iI x1)), l2, l3, some (.int (iI x4)), some (.int (iI x5)), some (.int (iI x6)), some (.int (iI x7)), l8, some (.int (iI x9)), l10, l11, some (.int (iI x12)), some (.int (iI x13))]) (st' := [.int (iI x12)]) dX7_read_322 (fun _ _ => rfl) ?_
  refine qv_ic dX7_read_324 ?_
  obtain ⟨hr1, h⟩ := h
  refine qv_add dX7_read_325 ?_
  refine qv_g (pc' := 328) (ls' := [some (.ref m), some (.int (iI x1)), l2, l3, some (.int (iI x4)), some (.int (iI x5)), some (.int (iI x6)), some (.int (iI x7)), l8, some (.int (iI x9)), (clr l10), some (.int (iI (x12 + 1))), some (.int (iI x12)), some (.int (iI x13))]) (st' := []) dX7_read_326 (fun _ _ => rfl) ?_
  exact h
theorem v110_328 {v : VS} {Q : Rs → VS → Prop} {x1 : Int} {l2 : Option Value} {l3 : Option Value} {x4 : Int} {x5 : Int} {x6 : Int} {x7 : Int} {l8 : Option Value} {x9 : Int} {l10 : Option Value} {x11 : Int} {x12 : Int} {x13 : Int}
    (h : (x13 = 0 → RW g C S m A 110 350 [some (.ref m), some (.int (iI x1)), l2, l3, some (.int (iI x4)), some (.int (iI x5)), some (.int (iI x6)), some (.int (iI x7)), l8, some (.int (iI x9)), l10, some (.int (iI x11)), some (.int (iI x12)), some (.int (iI x13))] [] v Q) ∧ (¬ x13 = 0 → (¬ x7 = (-1) → RW g C S m A 110 350 [some (.ref m), some (.int (iI x1)), l2, l3, some (.int (iI x4)), some (.int (iI x5)), some (.int (iI x6)), some (.int (iI x7)), l8, some (.int (iI x9)), l10, some (.int (iI x11)), some (.int (iI x12)), some (.int (iI x13))] [] v Q) ∧ (x7 = (-1) → ((0 : Int) ≤ x1 ∧ (x1 : Int) < 2) ∧ ((-2147483648 : Int) ≤ (v 14 x1) - x6 ∧ (v 14 x1) - x6 ≤ 2147483647) ∧ RW g C S m A 110 350 [some (.ref m), some (.int (iI x1)), l2, l3, some (.int (iI x4)), some (.int (iI x5)), some (.int (iI x6)), some (.int (iI ((v 14 x1) - x6))), l8, some (.int (iI x9)), l10, some (.int (iI x11)), some (.int (iI x12)), some (.int (iI x13))] [] v Q))) (hx1 : (-2147483648 : Int) ≤ x1 ∧ x1 ≤ 2147483647 := by omega) (hx4 : (-2147483648 : Int) ≤ x4 ∧ x4 ≤ 2147483647 := by omega) (hx5 : (-2147483648 : Int) ≤ x5 ∧ x5 ≤ 2147483647 := by omega) (hx6 : (-2147483648 : Int) ≤ x6 ∧ x6 ≤ 2147483647 := by omega) (hx7 : (-2147483648 : Int) ≤ x7 ∧ x7 ≤ 2147483647 := by omega) (hx9 : (-2147483648 : Int) ≤ x9 ∧ x9 ≤ 2147483647 := by omega) (hx11 : (-2147483648 : Int) ≤ x11 ∧ x11 ≤ 2147483647 := by omega) (hx12 : (-2147483648 : Int) ≤ x12 ∧ x12 ≤ 2147483647 := by omega) (hx13 : (-2147483648 : Int) ≤ x13 ∧ x13 ≤ 2147483647 := by omega) :
    RW g C S m A 110 328 [some (.ref m), some (.int (iI x1)), l2, l3, some (.int (iI x4)), some (.int (iI x5)), some (.int (iI x6)), some (.int (iI x7)), l8, some (.int (iI x9)), l10, some (.int (iI x11)), some (.int (iI x12)), some (.int (iI x13))] [] v Q := by
  refine qv_R (fun hvv => ?_)
  refine qv_g (pc' := 330) (ls' := [some (.ref m), some (.int (iI x1)), l2, l3, some (.int (iI x4)), some (.int (iI x5)), some (.int (iI x6)), some (.int (iI x7)), l8, some (.int (iI x9)), l10, some (.int (iI x11)), some (.int (iI x12)), some (.int (iI x13))]) (st' := [.int (iI x13)]) dX7_read_328 (fun _ _ => rfl) ?_
  obtain ⟨h1, h2⟩ := h
  refine qv_if (t := 350) dX7_read_330 (by decide) (d_eq hx13 (by decide)) (fun c => ?_) (fun c => ?_)
  · have h := h1 c
    exact h
  · have h := h2 c
    refine qv_g (pc' := 335) (ls' := [some (.ref m), some (.int (iI x1)), l2, l3, some (.int (iI x4)), some (.int (iI x5)), some (.int (iI x6)), some (.int (iI x7)), l8, some (.int (iI x9)), l10, some (.int (iI x11)), some (.int (iI x12)), some (.int (iI x13))]) (st' := [.int (iI x7)]) dX7_read_333 (fun _ _ => rfl) ?_
    refine qv_ic dX7_read_335 ?_
    obtain ⟨h1, h2⟩ := h
    refine qv_icmp (t := 350) dX7_read_336 (by decide) (d_ne hx7 (by decide)) (fun c => ?_) (fun c => ?_)
    · have h := h1 c
      exact h
    · have h := h2 (Decidable.of_not_not c)
      refine qv_g (pc' := 340) (ls' := [some (.ref m), some (.int (iI x1)), l2, l3, some (.int (iI x4)), some (.int (iI x5)), some (.int (iI x6)), some (.int (iI x7)), l8, some (.int (iI x9)), l10, some (.int (iI x11)), some (.int (iI x12)), some (.int (iI x13))]) (st' := [.ref m]) dX7_read_339 (fun _ _ => rfl) ?_
      refine qv_getA dX7_read_340 rfl rfl (by decide) ?_
      refine qv_g (pc' := 344) (ls' := [some (.ref m), some (.int (iI x1)), l2, l3, some (.int (iI x4)), some (.int (iI x5)), some (.int (iI x6)), some (.int (iI x7)), l8, some (.int (iI x9)), l10, some (.int (iI x11)), some (.int (iI x12)), some (.int (iI x13))]) (st' := [.int (iI x1), .ref (A 14)]) dX7_read_343 (fun _ _ => rfl) ?_
      obtain ⟨hr1, h⟩ := h
      refine qv_iald dX7_read_344 (by decide) hr1 (by decide) ?_
      refine qv_g (pc' := 347) (ls' := [some (.ref m), some (.int (iI x1)), l2, l3, some (.int (iI x4)), some (.int (iI x5)), some (.int (iI x6)), some (.int (iI x7)), l8, some (.int (iI x9)), l10, some (.int (iI x11)), some (.int (iI x12)), some (.int (iI x13))]) (st' := [.int (iI x6), .int (iI (v 14 x1))]) dX7_read_345 (fun _ _ => rfl) ?_
      obtain ⟨hr2, h⟩ := h
      refine qv_sub dX7_read_347 ?_
      refine qv_g (pc' := 350) (ls' := [some (.ref m), some (.int (iI x1)), l2, l3, some (.int (iI x4)), some (.int (iI x5)), some (.int (iI x6)), some (.int (iI ((v 14 x1) - x6))), l8, some (.int (iI x9)), l10, some (.int (iI x11)), some (.int (iI x12)), some (.int (iI x13))]) (st' := []) dX7_read_348 (fun _ _ => rfl) ?_
      exact h
theorem v110_350 {v : VS} {Q : Rs → VS → Prop} {x1 : Int} {l2 : Option Value} {l3 : Option Value} {x4 : Int} {x5 : Int} {x6 : Int} {x7 : Int} {l8 : Option Value} {x9 : Int} {l10 : Option Value} {x11 : Int} {x12 : Int} {l13 : Option Value}
    (h : ((-2147483648 : Int) ≤ x12 + 1 ∧ x12 + 1 ≤ 2147483647) ∧ RW g C S m A 110 252 [some (.ref m), some (.int (iI x1)), l2, l3, some (.int (iI x4)), some (.int (iI x5)), some (.int (iI x6)), some (.int (iI x7)), l8, some (.int (iI x9)), l10, some (.int (iI x11)), some (.int (iI (x12 + 1))), l13] [] v Q) (hx1 : (-2147483648 : Int) ≤ x1 ∧ x1 ≤ 2147483647 := by omega) (hx4 : (-2147483648 : Int) ≤ x4 ∧ x4 ≤ 2147483647 := by omega) (hx5 : (-2147483648 : Int) ≤ x5 ∧ x5 ≤ 2147483647 := by omega) (hx6 : (-2147483648 : Int) ≤ x6 ∧ x6 ≤ 2147483647 := by omega) (hx7 : (-2147483648 : Int) ≤ x7 ∧ x7 ≤ 2147483647 := by omega) (hx9 : (-2147483648 : Int) ≤ x9 ∧ x9 ≤ 2147483647 := by omega) (hx11 : (-2147483648 : Int) ≤ x11 ∧ x11 ≤ 2147483647 := by omega) (hx12 : (-2147483648 : Int) ≤ x12 ∧ x12 ≤ 2147483647 := by omega) :
    RW g C S m A 110 350 [some (.ref m), some (.int (iI x1)), l2, l3, some (.int (iI x4)), some (.int (iI x5)), some (.int (iI x6)), some (.int (iI x7)), l8, some (.int (iI x9)), l10, some (.int (iI x11)), some (.int (iI x12)), l13] [] v Q := by
  refine qv_R (fun hvv => ?_)
  obtain ⟨hr1, h⟩ := h
  refine qv_inc (ls' := [some (.ref m), some (.int (iI x1)), l2, l3, some (.int (iI x4)), some (.int (iI x5)), some (.int (iI x6)), some (.int (iI x7)), l8, some (.int (iI x9)), l10, some (.int (iI x11)), some (.int (iI (x12 + 1))), l13]) dX7_read_350 rfl (Nat.le_of_ble_eq_true rfl) rfl ?_
  refine qv_goto (t := 252) dX7_read_353 (by decide) ?_
  exact h
theorem v110_356 {v : VS} {Q : Rs → VS → Prop} {x1 : Int} {l2 : Option Value} {l3 : Option Value} {x4 : Int} {x5 : Int} {x6 : Int} {x7 : Int} {l8 : Option Value} {x9 : Int} {l10 : Option Value} {l11 : Option Value} {l12 : Option Value} {l13 : Option Value}
    (h : RW g C S m A 110 91 [some (.ref m), some (.int (iI x1)), l2, l3, some (.int (iI x4)), some (.int (iI x5)), some (.int (iI x6)), some (.int (iI x7)), some (.int (iI x9)), some (.int (iI x9)), l10, l11, l12, l13] [] v Q) (hx1 : (-2147483648 : Int) ≤ x1 ∧ x1 ≤ 2147483647 := by omega) (hx4 : (-2147483648 : Int) ≤ x4 ∧ x4 ≤ 2147483647 := by omega) (hx5 : (-2147483648 : Int) ≤ x5 ∧ x5 ≤ 2147483647 := by omega) (hx6 : (-2147483648 : Int) ≤ x6 ∧ x6 ≤ 2147483647 := by omega) (hx7 : (-2147483648 : Int) ≤ x7 ∧ x7 ≤ 2147483647 := by omega) (hx9 : (-2147483648 : Int) ≤ x9 ∧ x9 ≤ 2147483647 := by omega) :
    RW g C S m A 110 356 [some (.ref m), some (.int (iI x1)), l2, l3, some (.int (iI x4)), some (.int (iI x5)), some (.int (iI x6)), some (.int (iI x7)), l8, some (.int (iI x9)), l10, l11, l12, l13] [] v Q := by
  refine qv_R (fun hvv => ?_)
  refine qv_g (pc' := 358) (ls' := [some (.ref m), some (.int (iI x1)), l2, l3, some (.int (iI x4)), some (.int (iI x5)), some (.int (iI x6)), some (.int (iI x7)), l8, some (.int (iI x9)), l10, l11, l12, l13]) (st' := [.int (iI x9)]) dX7_read_356 (fun _ _ => rfl) ?_
  refine qv_g (pc' := 360) (ls' := [some (.ref m), some (.int (iI x1)), l2, l3, some (.int (iI x4)), some (.int (iI x5)), some (.int (iI x6)), some (.int (iI x7)), some (.int (iI x9)), some (.int (iI x9)), l10, l11, l12, l13]) (st' := []) dX7_read_358 (fun _ _ => rfl) ?_
  refine qv_goto (t := 91) dX7_read_360 (by decide) ?_
  exact h
theorem v110_372 {v : VS} {Q : Rs → VS → Prop} {l0 : Option Value} {l1 : Option Value} {l2 : Option Value} {l3 : Option Value} {l4 : Option Value} {l5 : Option Value} {l6 : Option Value} {l7 : Option Value} {l8 : Option Value} {l9 : Option Value} {l10 : Option Value} {l11 : Option Value} {l12 : Option Value} {l13 : Option Value}
    (h : Q (Sum.inl none) v)  :
    RW g C S m A 110 372 [l0, l1, l2, l3, l4, l5, l6, l7, l8, l9, l10, l11, l12, l13] [] v Q := by
  refine qv_R (fun hvv => ?_)
  exact qv_vret dX7_read_372 rfl h
theorem v111_0 {v : VS} {Q : Rs → VS → Prop} {x1 : Int}
    (h : ((0 : Int) ≤ v 21 0 ∧ (v 21 0 : Int) < 1000) ∧ (∀ w2, w2 = uv v 20 (v 21 0) x1 → ((-2147483648 : Int) ≤ (w2 21 0) + 1 ∧ (w2 21 0) + 1 ≤ 2147483647) ∧ (∀ w4, w4 = uv w2 21 0 ((w2 21 0) + 1) → Q (Sum.inl none) w4))) (hx1 : (-2147483648 : Int) ≤ x1 ∧ x1 ≤ 2147483647 := by omega) :
    RW g C S m A 111 0 [some (.ref m), some (.int (iI x1))] [] v Q := by
  refine qv_R (fun hvv => ?_)
  refine qv_g (pc' := 1) (ls' := [some (.ref m), some (.int (iI x1))]) (st' := [.ref m]) dX7_put_0 (fun _ _ => rfl) ?_
  refine qv_getA dX7_put_1 rfl rfl (by decide) ?_
  refine qv_g (pc' := 5) (ls' := [some (.ref m), some (.int (iI x1))]) (st' := [.ref m, .ref (A 20)]) dX7_put_4 (fun _ _ => rfl) ?_
  refine qv_getI dX7_put_5 rfl rfl rfl ?_
  refine qv_g (pc' := 9) (ls' := [some (.ref m), some (.int (iI x1))]) (st' := [.int (iI x1), .int (iI (v 21 0)), .ref (A 20)]) dX7_put_8 (fun _ _ => rfl) ?_
  obtain ⟨hr1, h⟩ := h
  refine qv_iast dX7_put_9 (by decide) hr1 (by decide) hx1 ?_
  generalize ew2 : uv v 20 (v 21 0) x1 = w2
  replace h := h _ ew2.symm
  refine qv_R (fun hvw2 => ?_)
  refine qv_g (pc' := 11) (ls' := [some (.ref m), some (.int (iI x1))]) (st' := [.ref m]) dX7_put_10 (fun _ _ => rfl) ?_
  refine qv_g (pc' := 12) (ls' := [some (.ref m), some (.int (iI x1))]) (st' := [.ref m, .ref m]) dX7_put_11 (fun _ _ => rfl) ?_
  refine qv_getI dX7_put_12 rfl rfl rfl ?_
  refine qv_ic dX7_put_15 ?_
  obtain ⟨hr3, h⟩ := h
  refine qv_add dX7_put_16 ?_
  refine qv_putI dX7_put_17 rfl rfl (Or.inl rfl) rfl (Or.inl rfl) hr3 ?_
  generalize ew4 : uv w2 21 0 ((w2 21 0) + 1) = w4
  replace h := h _ ew4.symm
  refine qv_R (fun hvw4 => ?_)
  exact qv_vret dX7_put_20 rfl h
theorem v112_0 {v : VS} {Q : Rs → VS → Prop} {y1 : Int} {l2 : Option Value} {l3 : Option Value} {l4 : Option Value}
    (h : RW g C S m A 112 2 [some (.ref m), some (.long (lI y1)), (clr l2), some (.long (lI y1)), none] [] v Q) (hy1 : 0 ≤ y1 ∧ y1 < 9223372036854775808 := by omega) :
    RW g C S m A 112 0 [some (.ref m), some (.long (lI y1)), l2, l3, l4] [] v Q := by
  refine qv_R (fun hvv => ?_)
  refine qv_g (pc' := 1) (ls' := [some (.ref m), some (.long (lI y1)), l2, l3, l4]) (st' := [.long (lI y1)]) dX7_say_0 (fun _ _ => rfl) ?_
  refine qv_g (pc' := 2) (ls' := [some (.ref m), some (.long (lI y1)), (clr l2), some (.long (lI y1)), none]) (st' := []) dX7_say_1 (fun _ _ => rfl) ?_
  exact h
theorem v112_2 {v : VS} {Q : Rs → VS → Prop} {l1 : Option Value} {l2 : Option Value} {y3 : Int} {l4 : Option Value}
    (h : ((if y3 = 0 then (0 : Int) else 1) = 0 → Q (Sum.inl none) v) ∧ (¬ (if y3 = 0 then (0 : Int) else 1) = 0 → RW g C S m A 111 0 [some (.ref m), some (.int (iI (y3 % 256)))] [] v (VK g C S m A 112 18 [some (.ref m), l1, l2, some (.long (lI y3)), l4] [] Q))) (hy3 : 0 ≤ y3 ∧ y3 < 9223372036854775808 := by omega) :
    RW g C S m A 112 2 [some (.ref m), l1, l2, some (.long (lI y3)), l4] [] v Q := by
  refine qv_R (fun hvv => ?_)
  refine qv_g (pc' := 3) (ls' := [some (.ref m), l1, l2, some (.long (lI y3)), l4]) (st' := [.long (lI y3)]) dX7_say_2 (fun _ _ => rfl) ?_
  refine qv_g (pc' := 4) (ls' := [some (.ref m), l1, l2, some (.long (lI y3)), l4]) (st' := [.long (lI 0), .long (lI y3)]) dX7_say_3 (fun _ _ => rfl) ?_
  refine qv_lcmp dX7_say_4 hy3 ?_
  obtain ⟨h1, h2⟩ := h
  refine qv_if (t := 27) dX7_say_5 (by decide) (d_eq (by split <;> decide) (by decide)) (fun c => ?_) (fun c => ?_)
  · have h := h1 c
    exact qv_vret dX7_say_27 rfl h
  · have h := h2 c
    refine qv_g (pc' := 9) (ls' := [some (.ref m), l1, l2, some (.long (lI y3)), l4]) (st' := [.ref m]) dX7_say_8 (fun _ _ => rfl) ?_
    refine qv_g (pc' := 10) (ls' := [some (.ref m), l1, l2, some (.long (lI y3)), l4]) (st' := [.long (lI y3), .ref m]) dX7_say_9 (fun _ _ => rfl) ?_
    refine qv_ldc2 (z := 256) dX7_say_10 rfl ?_
    refine qv_lrem dX7_say_13 hy3 (by decide) ?_
    refine qv_l2i dX7_say_14 (by omega) ?_
    exact qv_call dX7_say_15 (fun _ _ => ex_calV rfl (by decide)) rfl (Nat.le_of_ble_eq_true rfl) (Nat.le_of_ble_eq_true rfl) (Nat.le_of_ble_eq_true rfl) (fun _ hm => rcv0 rfl rfl (by decide) hm) rfl rfl rfl h
theorem v112_18 {v : VS} {Q : Rs → VS → Prop} {l1 : Option Value} {l2 : Option Value} {y3 : Int} {l4 : Option Value}
    (h : RW g C S m A 112 2 [some (.ref m), l1, (clr l2), some (.long (lI (y3 / 256))), none] [] v Q) (hy3 : 0 ≤ y3 ∧ y3 < 9223372036854775808 := by omega) :
    RW g C S m A 112 18 [some (.ref m), l1, l2, some (.long (lI y3)), l4] [] v Q := by
  refine qv_R (fun hvv => ?_)
  refine qv_g (pc' := 19) (ls' := [some (.ref m), l1, l2, some (.long (lI y3)), l4]) (st' := [.long (lI y3)]) dX7_say_18 (fun _ _ => rfl) ?_
  refine qv_ldc2 (z := 256) dX7_say_19 rfl ?_
  refine qv_ldiv dX7_say_22 hy3 (by decide) ?_
  refine qv_g (pc' := 24) (ls' := [some (.ref m), l1, (clr l2), some (.long (lI (y3 / 256))), none]) (st' := []) dX7_say_23 (fun _ _ => rfl) ?_
  refine qv_goto (t := 2) dX7_say_24 (by decide) ?_
  exact h
theorem v113_0 {v : VS} {Q : Rs → VS → Prop} {x1 : Int} {l2 : Option Value}
    (h : RW g C S m A 113 2 [some (.ref m), some (.int (iI x1)), some (.int (iI 0))] [] v Q) (hx1 : (-2147483648 : Int) ≤ x1 ∧ x1 ≤ 2147483647 := by omega) :
    RW g C S m A 113 0 [some (.ref m), some (.int (iI x1)), l2] [] v Q := by
  refine qv_R (fun hvv => ?_)
  refine qv_ic dX7_putField_0 ?_
  refine qv_g (pc' := 2) (ls' := [some (.ref m), some (.int (iI x1)), some (.int (iI 0))]) (st' := []) dX7_putField_1 (fun _ _ => rfl) ?_
  exact h
theorem v113_2 {v : VS} {Q : Rs → VS → Prop} {x1 : Int} {x2 : Int}
    (h : (x1 = (-1) → RW g C S m A 113 38 [some (.ref m), some (.int (iI x1)), some (.int (iI x2))] [] v Q) ∧ (¬ x1 = (-1) → ((0 : Int) ≤ x1 ∧ (x1 : Int) < 192) ∧ (v 5 x1 ≤ x2 → RW g C S m A 113 38 [some (.ref m), some (.int (iI x1)), some (.int (iI x2))] [] v Q) ∧ (x2 < v 5 x1 → ((-2147483648 : Int) ≤ 80 * x1 ∧ 80 * x1 ≤ 2147483647) ∧ ((-2147483648 : Int) ≤ (80 * x1) + x2 ∧ (80 * x1) + x2 ≤ 2147483647) ∧ ((0 : Int) ≤ (80 * x1) + x2 ∧ ((80 * x1) + x2 : Int) < 15360) ∧ RW g C S m A 111 0 [some (.ref m), some (.int (iI (v 6 ((80 * x1) + x2))))] [] v (VK g C S m A 113 32 [some (.ref m), some (.int (iI x1)), some (.int (iI x2))] [] Q)))) (hx1 : (-2147483648 : Int) ≤ x1 ∧ x1 ≤ 2147483647 := by omega) (hx2 : (-2147483648 : Int) ≤ x2 ∧ x2 ≤ 2147483647 := by omega) :
    RW g C S m A 113 2 [some (.ref m), some (.int (iI x1)), some (.int (iI x2))] [] v Q := by
  refine qv_R (fun hvv => ?_)
  refine qv_g (pc' := 3) (ls' := [some (.ref m), some (.int (iI x1)), some (.int (iI x2))]) (st' := [.int (iI x1)]) dX7_putField_2 (fun _ _ => rfl) ?_
  refine qv_ic dX7_putField_3 ?_
  obtain ⟨h1, h2⟩ := h
  refine qv_icmp (t := 38) dX7_putField_4 (by decide) (d_eq hx1 (by decide)) (fun c => ?_) (fun c => ?_)
  · have h := h1 c
    exact h
  · have h := h2 c
    refine qv_g (pc' := 8) (ls' := [some (.ref m), some (.int (iI x1)), some (.int (iI x2))]) (st' := [.int (iI x2)]) dX7_putField_7 (fun _ _ => rfl) ?_
    refine qv_g (pc' := 9) (ls' := [some (.ref m), some (.int (iI x1)), some (.int (iI x2))]) (st' := [.ref m, .int (iI x2)]) dX7_putField_8 (fun _ _ => rfl) ?_
    refine qv_getA dX7_putField_9 rfl rfl (by decide) ?_
    refine qv_g (pc' := 13) (ls' := [some (.ref m), some (.int (iI x1)), some (.int (iI x2))]) (st' := [.int (iI x1), .ref (A 5), .int (iI x2)]) dX7_putField_12 (fun _ _ => rfl) ?_
    obtain ⟨hr1, h⟩ := h
    refine qv_iald dX7_putField_13 (by decide) hr1 (by decide) ?_
    obtain ⟨h1, h2⟩ := h
    refine qv_icmp (t := 38) dX7_putField_14 (by decide) (d_ge hx2 (hvv _ _)) (fun c => ?_) (fun c => ?_)
    · have h := h1 c
      exact h
    · have h := h2 (Int.not_le.mp c)
      refine qv_g (pc' := 18) (ls' := [some (.ref m), some (.int (iI x1)), some (.int (iI x2))]) (st' := [.ref m]) dX7_putField_17 (fun _ _ => rfl) ?_
      refine qv_g (pc' := 19) (ls' := [some (.ref m), some (.int (iI x1)), some (.int (iI x2))]) (st' := [.ref m, .ref m]) dX7_putField_18 (fun _ _ => rfl) ?_
      refine qv_getA dX7_putField_19 rfl rfl (by decide) ?_
      refine qv_bi dX7_putField_22 (by decide) ?_
      refine qv_g (pc' := 25) (ls' := [some (.ref m), some (.int (iI x1)), some (.int (iI x2))]) (st' := [.int (iI x1), .int (iI 80), .ref (A 6), .ref m]) dX7_putField_24 (fun _ _ => rfl) ?_
      obtain ⟨hr2, h⟩ := h
      refine qv_mul dX7_putField_25 ?_
      refine qv_g (pc' := 27) (ls' := [some (.ref m), some (.int (iI x1)), some (.int (iI x2))]) (st' := [.int (iI x2), .int (iI (80 * x1)), .ref (A 6), .ref m]) dX7_putField_26 (fun _ _ => rfl) ?_
      obtain ⟨hr3, h⟩ := h
      refine qv_add dX7_putField_27 ?_
      obtain ⟨hr4, h⟩ := h
      refine qv_iald dX7_putField_28 (by decide) hr4 (by decide) ?_
      exact qv_call dX7_putField_29 (fun _ _ => ex_calV rfl (by decide)) rfl (Nat.le_of_ble_eq_true rfl) (Nat.le_of_ble_eq_true rfl) (Nat.le_of_ble_eq_true rfl) (fun _ hm => rcv0 rfl rfl (by decide) hm) rfl rfl rfl h
theorem v113_32 {v : VS} {Q : Rs → VS → Prop} {x1 : Int} {x2 : Int}
    (h : ((-2147483648 : Int) ≤ x2 + 1 ∧ x2 + 1 ≤ 2147483647) ∧ RW g C S m A 113 2 [some (.ref m), some (.int (iI x1)), some (.int (iI (x2 + 1)))] [] v Q) (hx1 : (-2147483648 : Int) ≤ x1 ∧ x1 ≤ 2147483647 := by omega) (hx2 : (-2147483648 : Int) ≤ x2 ∧ x2 ≤ 2147483647 := by omega) :
    RW g C S m A 113 32 [some (.ref m), some (.int (iI x1)), some (.int (iI x2))] [] v Q := by
  refine qv_R (fun hvv => ?_)
  obtain ⟨hr1, h⟩ := h
  refine qv_inc (ls' := [some (.ref m), some (.int (iI x1)), some (.int (iI (x2 + 1)))]) dX7_putField_32 rfl (Nat.le_of_ble_eq_true rfl) rfl ?_
  refine qv_goto (t := 2) dX7_putField_35 (by decide) ?_
  exact h
theorem v113_38 {v : VS} {Q : Rs → VS → Prop} {l0 : Option Value} {l1 : Option Value} {l2 : Option Value}
    (h : Q (Sum.inl none) v)  :
    RW g C S m A 113 38 [l0, l1, l2] [] v Q := by
  refine qv_R (fun hvv => ?_)
  exact qv_vret dX7_putField_38 rfl h
theorem v114_0 {v : VS} {Q : Rs → VS → Prop} {x1 : Int} {x2 : Int} {l3 : Option Value}
    (h : RW g C S m A 114 2 [some (.ref m), some (.int (iI x1)), some (.int (iI x2)), some (.int (iI 0))] [] v Q) (hx1 : (-2147483648 : Int) ≤ x1 ∧ x1 ≤ 2147483647 := by omega) (hx2 : (-2147483648 : Int) ≤ x2 ∧ x2 ≤ 2147483647 := by omega) :
    RW g C S m A 114 0 [some (.ref m), some (.int (iI x1)), some (.int (iI x2)), l3] [] v Q := by
  refine qv_R (fun hvv => ?_)
  refine qv_ic dX7_putKey_0 ?_
  refine qv_g (pc' := 2) (ls' := [some (.ref m), some (.int (iI x1)), some (.int (iI x2)), some (.int (iI 0))]) (st' := []) dX7_putKey_1 (fun _ _ => rfl) ?_
  exact h
theorem v114_2 {v : VS} {Q : Rs → VS → Prop} {x1 : Int} {x2 : Int} {x3 : Int}
    (h : ((0 : Int) ≤ x1 ∧ (x1 : Int) < 24) ∧ (v 3 x1 ≤ x3 → RW g C S m A 114 38 [some (.ref m), some (.int (iI x1)), some (.int (iI x2)), some (.int (iI x3))] [] v Q) ∧ (x3 < v 3 x1 → (x2 ≤ x3 → RW g C S m A 114 38 [some (.ref m), some (.int (iI x1)), some (.int (iI x2)), some (.int (iI x3))] [] v Q) ∧ (x3 < x2 → ((-2147483648 : Int) ≤ 16 * x1 ∧ 16 * x1 ≤ 2147483647) ∧ ((-2147483648 : Int) ≤ (16 * x1) + x3 ∧ (16 * x1) + x3 ≤ 2147483647) ∧ ((0 : Int) ≤ (16 * x1) + x3 ∧ ((16 * x1) + x3 : Int) < 384) ∧ RW g C S m A 111 0 [some (.ref m), some (.int (iI (v 4 ((16 * x1) + x3))))] [] v (VK g C S m A 114 32 [some (.ref m), some (.int (iI x1)), some (.int (iI x2)), some (.int (iI x3))] [] Q)))) (hx1 : (-2147483648 : Int) ≤ x1 ∧ x1 ≤ 2147483647 := by omega) (hx2 : (-2147483648 : Int) ≤ x2 ∧ x2 ≤ 2147483647 := by omega) (hx3 : (-2147483648 : Int) ≤ x3 ∧ x3 ≤ 2147483647 := by omega) :
    RW g C S m A 114 2 [some (.ref m), some (.int (iI x1)), some (.int (iI x2)), some (.int (iI x3))] [] v Q := by
  refine qv_R (fun hvv => ?_)
  refine qv_g (pc' := 3) (ls' := [some (.ref m), some (.int (iI x1)), some (.int (iI x2)), some (.int (iI x3))]) (st' := [.int (iI x3)]) dX7_putKey_2 (fun _ _ => rfl) ?_
  refine qv_g (pc' := 4) (ls' := [some (.ref m), some (.int (iI x1)), some (.int (iI x2)), some (.int (iI x3))]) (st' := [.ref m, .int (iI x3)]) dX7_putKey_3 (fun _ _ => rfl) ?_
  refine qv_getA dX7_putKey_4 rfl rfl (by decide) ?_
  refine qv_g (pc' := 8) (ls' := [some (.ref m), some (.int (iI x1)), some (.int (iI x2)), some (.int (iI x3))]) (st' := [.int (iI x1), .ref (A 3), .int (iI x3)]) dX7_putKey_7 (fun _ _ => rfl) ?_
  obtain ⟨hr1, h⟩ := h
  refine qv_iald dX7_putKey_8 (by decide) hr1 (by decide) ?_
  obtain ⟨h1, h2⟩ := h
  refine qv_icmp (t := 38) dX7_putKey_9 (by decide) (d_ge hx3 (hvv _ _)) (fun c => ?_) (fun c => ?_)
  · have h := h1 c
    exact h
  · have h := h2 (Int.not_le.mp c)
    refine qv_g (pc' := 13) (ls' := [some (.ref m), some (.int (iI x1)), some (.int (iI x2)), some (.int (iI x3))]) (st' := [.int (iI x3)]) dX7_putKey_12 (fun _ _ => rfl) ?_
    refine qv_g (pc' := 14) (ls' := [some (.ref m), some (.int (iI x1)), some (.int (iI x2)), some (.int (iI x3))]) (st' := [.int (iI x2), .int (iI x3)]) dX7_putKey_13 (fun _ _ => rfl) ?_
    obtain ⟨h1, h2⟩ := h
    refine qv_icmp (t := 38) dX7_putKey_14 (by decide) (d_ge hx3 hx2) (fun c => ?_) (fun c => ?_)
    · have h := h1 c
      exact h
    · have h := h2 (Int.not_le.mp c)
      refine qv_g (pc' := 18) (ls' := [some (.ref m), some (.int (iI x1)), some (.int (iI x2)), some (.int (iI x3))]) (st' := [.ref m]) dX7_putKey_17 (fun _ _ => rfl) ?_
      refine qv_g (pc' := 19) (ls' := [some (.ref m), some (.int (iI x1)), some (.int (iI x2)), some (.int (iI x3))]) (st' := [.ref m, .ref m]) dX7_putKey_18 (fun _ _ => rfl) ?_
      refine qv_getA dX7_putKey_19 rfl rfl (by decide) ?_
      refine qv_bi dX7_putKey_22 (by decide) ?_
      refine qv_g (pc' := 25) (ls' := [some (.ref m), some (.int (iI x1)), some (.int (iI x2)), some (.int (iI x3))]) (st' := [.int (iI x1), .int (iI 16), .ref (A 4), .ref m]) dX7_putKey_24 (fun _ _ => rfl) ?_
      obtain ⟨hr2, h⟩ := h
      refine qv_mul dX7_putKey_25 ?_
      refine qv_g (pc' := 27) (ls' := [some (.ref m), some (.int (iI x1)), some (.int (iI x2)), some (.int (iI x3))]) (st' := [.int (iI x3), .int (iI (16 * x1)), .ref (A 4), .ref m]) dX7_putKey_26 (fun _ _ => rfl) ?_
      obtain ⟨hr3, h⟩ := h
      refine qv_add dX7_putKey_27 ?_
      obtain ⟨hr4, h⟩ := h
      refine qv_iald dX7_putKey_28 (by decide) hr4 (by decide) ?_
      exact qv_call dX7_putKey_29 (fun _ _ => ex_calV rfl (by decide)) rfl (Nat.le_of_ble_eq_true rfl) (Nat.le_of_ble_eq_true rfl) (Nat.le_of_ble_eq_true rfl) (fun _ hm => rcv0 rfl rfl (by decide) hm) rfl rfl rfl h
theorem v114_32 {v : VS} {Q : Rs → VS → Prop} {x1 : Int} {x2 : Int} {x3 : Int}
    (h : ((-2147483648 : Int) ≤ x3 + 1 ∧ x3 + 1 ≤ 2147483647) ∧ RW g C S m A 114 2 [some (.ref m), some (.int (iI x1)), some (.int (iI x2)), some (.int (iI (x3 + 1)))] [] v Q) (hx1 : (-2147483648 : Int) ≤ x1 ∧ x1 ≤ 2147483647 := by omega) (hx2 : (-2147483648 : Int) ≤ x2 ∧ x2 ≤ 2147483647 := by omega) (hx3 : (-2147483648 : Int) ≤ x3 ∧ x3 ≤ 2147483647 := by omega) :
    RW g C S m A 114 32 [some (.ref m), some (.int (iI x1)), some (.int (iI x2)), some (.int (iI x3))] [] v Q := by
  refine qv_R (fun hvv => ?_)
  obtain ⟨hr1, h⟩ := h
  refine qv_inc (ls' := [some (.ref m), some (.int (iI x1)), some (.int (iI x2)), some (.int (iI (x3 + 1)))]) dX7_putKey_32 rfl (Nat.le_of_ble_eq_true rfl) rfl ?_
  refine qv_goto (t := 2) dX7_putKey_35 (by decide) ?_
  exact h
theorem v114_38 {v : VS} {Q : Rs → VS → Prop} {l0 : Option Value} {l1 : Option Value} {l2 : Option Value} {l3 : Option Value}
    (h : Q (Sum.inl none) v)  :
    RW g C S m A 114 38 [l0, l1, l2, l3] [] v Q := by
  refine qv_R (fun hvv => ?_)
  exact qv_vret dX7_putKey_38 rfl h
theorem v115_0 {v : VS} {Q : Rs → VS → Prop} {x1 : Int} {x2 : Int} {x3 : Int} {x4 : Int} {l5 : Option Value} {l6 : Option Value} {l7 : Option Value} {l8 : Option Value}
    (h : ((-2147483648 : Int) ≤ 64 * x1 ∧ 64 * x1 ≤ 2147483647) ∧ RW g C S m A 115 15 [some (.ref m), some (.int (iI x1)), some (.int (iI x2)), some (.int (iI x3)), some (.int (iI x4)), some (.int (iI (v 21 0))), some (.int (iI 0)), some (.int (iI (64 * x1))), l8] [] v Q) (hx1 : (-2147483648 : Int) ≤ x1 ∧ x1 ≤ 2147483647 := by omega) (hx2 : (-2147483648 : Int) ≤ x2 ∧ x2 ≤ 2147483647 := by omega) (hx3 : (-2147483648 : Int) ≤ x3 ∧ x3 ≤ 2147483647 := by omega) (hx4 : (-2147483648 : Int) ≤ x4 ∧ x4 ≤ 2147483647 := by omega) :
    RW g C S m A 115 0 [some (.ref m), some (.int (iI x1)), some (.int (iI x2)), some (.int (iI x3)), some (.int (iI x4)), l5, l6, l7, l8] [] v Q := by
  refine qv_R (fun hvv => ?_)
  refine qv_g (pc' := 1) (ls' := [some (.ref m), some (.int (iI x1)), some (.int (iI x2)), some (.int (iI x3)), some (.int (iI x4)), l5, l6, l7, l8]) (st' := [.ref m]) dX7_putWords_0 (fun _ _ => rfl) ?_
  refine qv_getI dX7_putWords_1 rfl rfl rfl ?_
  refine qv_g (pc' := 6) (ls' := [some (.ref m), some (.int (iI x1)), some (.int (iI x2)), some (.int (iI x3)), some (.int (iI x4)), some (.int (iI (v 21 0))), l6, l7, l8]) (st' := []) dX7_putWords_4 (fun _ _ => rfl) ?_
  refine qv_ic dX7_putWords_6 ?_
  refine qv_g (pc' := 9) (ls' := [some (.ref m), some (.int (iI x1)), some (.int (iI x2)), some (.int (iI x3)), some (.int (iI x4)), some (.int (iI (v 21 0))), some (.int (iI 0)), l7, l8]) (st' := []) dX7_putWords_7 (fun _ _ => rfl) ?_
  refine qv_bi dX7_putWords_9 (by decide) ?_
  refine qv_g (pc' := 12) (ls' := [some (.ref m), some (.int (iI x1)), some (.int (iI x2)), some (.int (iI x3)), some (.int (iI x4)), some (.int (iI (v 21 0))), some (.int (iI 0)), l7, l8]) (st' := [.int (iI x1), .int (iI 64)]) dX7_putWords_11 (fun _ _ => rfl) ?_
  obtain ⟨hr1, h⟩ := h
  refine qv_mul dX7_putWords_12 ?_
  refine qv_g (pc' := 15) (ls' := [some (.ref m), some (.int (iI x1)), some (.int (iI x2)), some (.int (iI x3)), some (.int (iI x4)), some (.int (iI (v 21 0))), some (.int (iI 0)), some (.int (iI (64 * x1))), l8]) (st' := []) dX7_putWords_13 (fun _ _ => rfl) ?_
  exact h
theorem v115_15 {v : VS} {Q : Rs → VS → Prop} {x1 : Int} {x2 : Int} {x3 : Int} {x4 : Int} {x5 : Int} {x6 : Int} {x7 : Int} {l8 : Option Value}
    (h : ((-2147483648 : Int) ≤ 64 * x1 ∧ 64 * x1 ≤ 2147483647) ∧ ((0 : Int) ≤ x1 ∧ (x1 : Int) < 2) ∧ ((-2147483648 : Int) ≤ (64 * x1) + (v 14 x1) ∧ (64 * x1) + (v 14 x1) ≤ 2147483647) ∧ ((64 * x1) + (v 14 x1) ≤ x7 → ((-2147483648 : Int) ≤ (v 21 0) - x5 ∧ (v 21 0) - x5 ≤ 2147483647) ∧ ((v 21 0) - x5 ≤ x4 → RW g C S m A 115 136 [some (.ref m), some (.int (iI x1)), some (.int (iI x2)), some (.int (iI x3)), some (.int (iI x4)), some (.int (iI x5)), some (.int (iI x6)), some (.int (iI x7)), l8] [.int (iI (v 21 0)), .ref m] v Q) ∧ (x4 < (v 21 0) - x5 → ((-2147483648 : Int) ≤ x5 + x4 ∧ x5 + x4 ≤ 2147483647) ∧ RW g C S m A 115 136 [some (.ref m), some (.int (iI x1)), some (.int (iI x2)), some (.int (iI x3)), some (.int (iI x4)), some (.int (iI x5)), some (.int (iI x6)), some (.int (iI x7)), l8] [.int (iI (x5 + x4)), .ref m] v Q)) ∧ (x7 < (64 * x1) + (v 14 x1) → ((0 : Int) ≤ x7 ∧ (x7 : Int) < 128) ∧ (¬ v 17 x7 = x2 → RW g C S m A 115 105 [some (.ref m), some (.int (iI x1)), some (.int (iI x2)), some (.int (iI x3)), some (.int (iI x4)), some (.int (iI x5)), some (.int (iI x6)), some (.int (iI x7)), l8] [] v Q) ∧ (v 17 x7 = x2 → ((0 : Int) ≤ x7 ∧ (x7 : Int) < 128) ∧ (¬ v 18 x7 = x3 → RW g C S m A 115 105 [some (.ref m), some (.int (iI x1)), some (.int (iI x2)), some (.int (iI x3)), some (.int (iI x4)), some (.int (iI x5)), some (.int (iI x6)), some (.int (iI x7)), l8] [] v Q) ∧ (v 18 x7 = x3 → (x6 = 0 → RW g C S m A 115 64 [some (.ref m), some (.int (iI x1)), some (.int (iI x2)), some (.int (iI x3)), some (.int (iI x4)), some (.int (iI x5)), some (.int (iI x6)), some (.int (iI x7)), l8] [] v Q) ∧ (¬ x6 = 0 → RW g C S m A 111 0 [some (.ref m), some (.int (iI 32))] [] v (VK g C S m A 115 64 [some (.ref m), some (.int (iI x1)), some (.int (iI x2)), some (.int (iI x3)), some (.int (iI x4)), some (.int (iI x5)), some (.int (iI x6)), some (.int (iI x7)), l8] [] Q)))))) (hx1 : (-2147483648 : Int) ≤ x1 ∧ x1 ≤ 2147483647 := by omega) (hx2 : (-2147483648 : Int) ≤ x2 ∧ x2 ≤ 2147483647 := by omega) (hx3 : (-2147483648 : Int) ≤ x3 ∧ x3 ≤ 2147483647 := by omega) (hx4 : (-2147483648 : Int) ≤ x4 ∧ x4 ≤ 2147483647 := by omega) (hx5 : (-2147483648 : Int) ≤ x5 ∧ x5 ≤ 2147483647 := by omega) (hx6 : (-2147483648 : Int) ≤ x6 ∧ x6 ≤ 2147483647 := by omega) (hx7 : (-2147483648 : Int) ≤ x7 ∧ x7 ≤ 2147483647 := by omega) :
    RW g C S m A 115 15 [some (.ref m), some (.int (iI x1)), some (.int (iI x2)), some (.int (iI x3)), some (.int (iI x4)), some (.int (iI x5)), some (.int (iI x6)), some (.int (iI x7)), l8] [] v Q := by
  refine qv_R (fun hvv => ?_)
  refine qv_g (pc' := 17) (ls' := [some (.ref m), some (.int (iI x1)), some (.int (iI x2)), some (.int (iI x3)), some (.int (iI x4)), some (.int (iI x5)), some (.int (iI x6)), some (.int (iI x7)), l8]) (st' := [.int (iI x7)]) dX7_putWords_15 (fun _ _ => rfl) ?_
  refine qv_bi dX7_putWords_17 (by decide) ?_
  refine qv_g (pc' := 20) (ls' := [some (.ref m), some (.int (iI x1)), some (.int (iI x2)), some (.int (iI x3)), some (.int (iI x4)), some (.int (iI x5)), some (.int (iI x6)), some (.int (iI x7)), l8]) (st' := [.int (iI x1), .int (iI 64), .int (iI x7)]) dX7_putWords_19 (fun _ _ => rfl) ?_
  obtain ⟨hr1, h⟩ := h
  refine qv_mul dX7_putWords_20 ?_
  refine qv_g (pc' := 22) (ls' := [some (.ref m), some (.int (iI x1)), some (.int (iI x2)), some (.int (iI x3)), some (.int (iI x4)), some (.int (iI x5)), some (.int (iI x6)), some (.int (iI x7)), l8]) (st' := [.ref m, .int (iI (64 * x1)), .int (iI x7)]) dX7_putWords_21 (fun _ _ => rfl) ?_
  refine qv_getA dX7_putWords_22 rfl rfl (by decide) ?_
  refine qv_g (pc' := 26) (ls' := [some (.ref m), some (.int (iI x1)), some (.int (iI x2)), some (.int (iI x3)), some (.int (iI x4)), some (.int (iI x5)), some (.int (iI x6)), some (.int (iI x7)), l8]) (st' := [.int (iI x1), .ref (A 14), .int (iI (64 * x1)), .int (iI x7)]) dX7_putWords_25 (fun _ _ => rfl) ?_
  obtain ⟨hr2, h⟩ := h
  refine qv_iald dX7_putWords_26 (by decide) hr2 (by decide) ?_
  obtain ⟨hr3, h⟩ := h
  refine qv_add dX7_putWords_27 ?_
  obtain ⟨h1, h2⟩ := h
  refine qv_icmp (t := 111) dX7_putWords_28 (by decide) (d_ge hx7 hr3) (fun c => ?_) (fun c => ?_)
  · have h := h1 c
    refine qv_g (pc' := 112) (ls' := [some (.ref m), some (.int (iI x1)), some (.int (iI x2)), some (.int (iI x3)), some (.int (iI x4)), some (.int (iI x5)), some (.int (iI x6)), some (.int (iI x7)), l8]) (st' := [.ref m]) dX7_putWords_111 (fun _ _ => rfl) ?_
    refine qv_g (pc' := 113) (ls' := [some (.ref m), some (.int (iI x1)), some (.int (iI x2)), some (.int (iI x3)), some (.int (iI x4)), some (.int (iI x5)), some (.int (iI x6)), some (.int (iI x7)), l8]) (st' := [.ref m, .ref m]) dX7_putWords_112 (fun _ _ => rfl) ?_
    refine qv_getI dX7_putWords_113 rfl rfl rfl ?_
    refine qv_g (pc' := 118) (ls' := [some (.ref m), some (.int (iI x1)), some (.int (iI x2)), some (.int (iI x3)), some (.int (iI x4)), some (.int (iI x5)), some (.int (iI x6)), some (.int (iI x7)), l8]) (st' := [.int (iI x5), .int (iI (v 21 0)), .ref m]) dX7_putWords_116 (fun _ _ => rfl) ?_
    obtain ⟨hr4, h⟩ := h
    refine qv_sub dX7_putWords_118 ?_
    refine qv_g (pc' := 121) (ls' := [some (.ref m), some (.int (iI x1)), some (.int (iI x2)), some (.int (iI x3)), some (.int (iI x4)), some (.int (iI x5)), some (.int (iI x6)), some (.int (iI x7)), l8]) (st' := [.int (iI x4), .int (iI ((v 21 0) - x5)), .ref m]) dX7_putWords_119 (fun _ _ => rfl) ?_
    obtain ⟨h1, h2⟩ := h
    refine qv_icmp (t := 132) dX7_putWords_121 (by decide) (d_le hr4 hx4) (fun c => ?_) (fun c => ?_)
    · have h := h1 c
      refine qv_g (pc' := 133) (ls' := [some (.ref m), some (.int (iI x1)), some (.int (iI x2)), some (.int (iI x3)), some (.int (iI x4)), some (.int (iI x5)), some (.int (iI x6)), some (.int (iI x7)), l8]) (st' := [.ref m, .ref m]) dX7_putWords_132 (fun _ _ => rfl) ?_
      refine qv_getI dX7_putWords_133 rfl rfl rfl ?_
      exact h
    · have h := h2 (Int.not_le.mp c)
      refine qv_g (pc' := 126) (ls' := [some (.ref m), some (.int (iI x1)), some (.int (iI x2)), some (.int (iI x3)), some (.int (iI x4)), some (.int (iI x5)), some (.int (iI x6)), some (.int (iI x7)), l8]) (st' := [.int (iI x5), .ref m]) dX7_putWords_124 (fun _ _ => rfl) ?_
      refine qv_g (pc' := 128) (ls' := [some (.ref m), some (.int (iI x1)), some (.int (iI x2)), some (.int (iI x3)), some (.int (iI x4)), some (.int (iI x5)), some (.int (iI x6)), some (.int (iI x7)), l8]) (st' := [.int (iI x4), .int (iI x5), .ref m]) dX7_putWords_126 (fun _ _ => rfl) ?_
      obtain ⟨hr5, h⟩ := h
      refine qv_add dX7_putWords_128 ?_
      refine qv_goto (t := 136) dX7_putWords_129 (by decide) ?_
      exact h
  · have h := h2 (Int.not_le.mp c)
    refine qv_g (pc' := 32) (ls' := [some (.ref m), some (.int (iI x1)), some (.int (iI x2)), some (.int (iI x3)), some (.int (iI x4)), some (.int (iI x5)), some (.int (iI x6)), some (.int (iI x7)), l8]) (st' := [.ref m]) dX7_putWords_31 (fun _ _ => rfl) ?_
    refine qv_getA dX7_putWords_32 rfl rfl (by decide) ?_
    refine qv_g (pc' := 37) (ls' := [some (.ref m), some (.int (iI x1)), some (.int (iI x2)), some (.int (iI x3)), some (.int (iI x4)), some (.int (iI x5)), some (.int (iI x6)), some (.int (iI x7)), l8]) (st' := [.int (iI x7), .ref (A 17)]) dX7_putWords_35 (fun _ _ => rfl) ?_
    obtain ⟨hr6, h⟩ := h
    refine qv_iald dX7_putWords_37 (by decide) hr6 (by decide) ?_
    refine qv_g (pc' := 39) (ls' := [some (.ref m), some (.int (iI x1)), some (.int (iI x2)), some (.int (iI x3)), some (.int (iI x4)), some (.int (iI x5)), some (.int (iI x6)), some (.int (iI x7)), l8]) (st' := [.int (iI x2), .int (iI (v 17 x7))]) dX7_putWords_38 (fun _ _ => rfl) ?_
    obtain ⟨h1, h2⟩ := h
    refine qv_icmp (t := 105) dX7_putWords_39 (by decide) (d_ne (hvv _ _) hx2) (fun c => ?_) (fun c => ?_)
    · have h := h1 c
      exact h
    · have h := h2 (Decidable.of_not_not c)
      refine qv_g (pc' := 43) (ls' := [some (.ref m), some (.int (iI x1)), some (.int (iI x2)), some (.int (iI x3)), some (.int (iI x4)), some (.int (iI x5)), some (.int (iI x6)), some (.int (iI x7)), l8]) (st' := [.ref m]) dX7_putWords_42 (fun _ _ => rfl) ?_
      refine qv_getA dX7_putWords_43 rfl rfl (by decide) ?_
      refine qv_g (pc' := 48) (ls' := [some (.ref m), some (.int (iI x1)), some (.int (iI x2)), some (.int (iI x3)), some (.int (iI x4)), some (.int (iI x5)), some (.int (iI x6)), some (.int (iI x7)), l8]) (st' := [.int (iI x7), .ref (A 18)]) dX7_putWords_46 (fun _ _ => rfl) ?_
      obtain ⟨hr7, h⟩ := h
      refine qv_iald dX7_putWords_48 (by decide) hr7 (by decide) ?_
      refine qv_g (pc' := 50) (ls' := [some (.ref m), some (.int (iI x1)), some (.int (iI x2)), some (.int (iI x3)), some (.int (iI x4)), some (.int (iI x5)), some (.int (iI x6)), some (.int (iI x7)), l8]) (st' := [.int (iI x3), .int (iI (v 18 x7))]) dX7_putWords_49 (fun _ _ => rfl) ?_
      obtain ⟨h1, h2⟩ := h
      refine qv_icmp (t := 105) dX7_putWords_50 (by decide) (d_ne (hvv _ _) hx3) (fun c => ?_) (fun c => ?_)
      · have h := h1 c
        exact h
      · have h := h2 (Decidable.of_not_not c)
        refine qv_g (pc' := 55) (ls' := [some (.ref m), some (.int (iI x1)), some (.int (iI x2)), some (.int (iI x3)), some (.int (iI x4)), some (.int (iI x5)), some (.int (iI x6)), some (.int (iI x7)), l8]) (st' := [.int (iI x6)]) dX7_putWords_53 (fun _ _ => rfl) ?_
        obtain ⟨h1, h2⟩ := h
        refine qv_if (t := 64) dX7_putWords_55 (by decide) (d_eq hx6 (by decide)) (fun c => ?_) (fun c => ?_)
        · have h := h1 c
          exact h
        · have h := h2 c
          refine qv_g (pc' := 59) (ls' := [some (.ref m), some (.int (iI x1)), some (.int (iI x2)), some (.int (iI x3)), some (.int (iI x4)), some (.int (iI x5)), some (.int (iI x6)), some (.int (iI x7)), l8]) (st' := [.ref m]) dX7_putWords_58 (fun _ _ => rfl) ?_
          refine qv_bi dX7_putWords_59 (by decide) ?_
          exact qv_call dX7_putWords_61 (fun _ _ => ex_calV rfl (by decide)) rfl (Nat.le_of_ble_eq_true rfl) (Nat.le_of_ble_eq_true rfl) (Nat.le_of_ble_eq_true rfl) (fun _ hm => rcv0 rfl rfl (by decide) hm) rfl rfl rfl h
theorem v115_64 {v : VS} {Q : Rs → VS → Prop} {x1 : Int} {x2 : Int} {x3 : Int} {x4 : Int} {x5 : Int} {l6 : Option Value} {x7 : Int} {l8 : Option Value}
    (h : ((0 : Int) ≤ x7 ∧ (x7 : Int) < 128) ∧ RW g C S m A 115 76 [some (.ref m), some (.int (iI x1)), some (.int (iI x2)), some (.int (iI x3)), some (.int (iI x4)), some (.int (iI x5)), some (.int (iI 1)), some (.int (iI x7)), some (.int (iI (v 15 x7)))] [] v Q) (hx1 : (-2147483648 : Int) ≤ x1 ∧ x1 ≤ 2147483647 := by omega) (hx2 : (-2147483648 : Int) ≤ x2 ∧ x2 ≤ 2147483647 := by omega) (hx3 : (-2147483648 : Int) ≤ x3 ∧ x3 ≤ 2147483647 := by omega) (hx4 : (-2147483648 : Int) ≤ x4 ∧ x4 ≤ 2147483647 := by omega) (hx5 : (-2147483648 : Int) ≤ x5 ∧ x5 ≤ 2147483647 := by omega) (hx7 : (-2147483648 : Int) ≤ x7 ∧ x7 ≤ 2147483647 := by omega) :
    RW g C S m A 115 64 [some (.ref m), some (.int (iI x1)), some (.int (iI x2)), some (.int (iI x3)), some (.int (iI x4)), some (.int (iI x5)), l6, some (.int (iI x7)), l8] [] v Q := by
  refine qv_R (fun hvv => ?_)
  refine qv_ic dX7_putWords_64 ?_
  refine qv_g (pc' := 67) (ls' := [some (.ref m), some (.int (iI x1)), some (.int (iI x2)), some (.int (iI x3)), some (.int (iI x4)), some (.int (iI x5)), some (.int (iI 1)), some (.int (iI x7)), l8]) (st' := []) dX7_putWords_65 (fun _ _ => rfl) ?_
  refine qv_g (pc' := 68) (ls' := [some (.ref m), some (.int (iI x1)), some (.int (iI x2)), some (.int (iI x3)), some (.int (iI x4)), some (.int (iI x5)), some (.int (iI 1)), some (.int (iI x7)), l8]) (st' := [.ref m]) dX7_putWords_67 (fun _ _ => rfl) ?_
  refine qv_getA dX7_putWords_68 rfl rfl (by decide) ?_
  refine qv_g (pc' := 73) (ls' := [some (.ref m), some (.int (iI x1)), some (.int (iI x2)), some (.int (iI x3)), some (.int (iI x4)), some (.int (iI x5)), some (.int (iI 1)), some (.int (iI x7)), l8]) (st' := [.int (iI x7), .ref (A 15)]) dX7_putWords_71 (fun _ _ => rfl) ?_
  obtain ⟨hr1, h⟩ := h
  refine qv_iald dX7_putWords_73 (by decide) hr1 (by decide) ?_
  refine qv_g (pc' := 76) (ls' := [some (.ref m), some (.int (iI x1)), some (.int (iI x2)), some (.int (iI x3)), some (.int (iI x4)), some (.int (iI x5)), some (.int (iI 1)), some (.int (iI x7)), some (.int (iI (v 15 x7)))]) (st' := []) dX7_putWords_74 (fun _ _ => rfl) ?_
  exact h
theorem v115_76 {v : VS} {Q : Rs → VS → Prop} {x1 : Int} {x2 : Int} {x3 : Int} {x4 : Int} {x5 : Int} {x6 : Int} {x7 : Int} {x8 : Int}
    (h : ((0 : Int) ≤ x7 ∧ (x7 : Int) < 128) ∧ (v 16 x7 ≤ x8 → RW g C S m A 115 105 [some (.ref m), some (.int (iI x1)), some (.int (iI x2)), some (.int (iI x3)), some (.int (iI x4)), some (.int (iI x5)), some (.int (iI x6)), some (.int (iI x7)), some (.int (iI x8))] [] v Q) ∧ (x8 < v 16 x7 → ((0 : Int) ≤ x8 ∧ (x8 : Int) < 160) ∧ RW g C S m A 111 0 [some (.ref m), some (.int (iI (v 13 x8)))] [] v (VK g C S m A 115 99 [some (.ref m), some (.int (iI x1)), some (.int (iI x2)), some (.int (iI x3)), some (.int (iI x4)), some (.int (iI x5)), some (.int (iI x6)), some (.int (iI x7)), some (.int (iI x8))] [] Q))) (hx1 : (-2147483648 : Int) ≤ x1 ∧ x1 ≤ 2147483647 := by omega) (hx2 : (-2147483648 : Int) ≤ x2 ∧ x2 ≤ 2147483647 := by omega) (hx3 : (-2147483648 : Int) ≤ x3 ∧ x3 ≤ 2147483647 := by omega) (hx4 : (-2147483648 : Int) ≤ x4 ∧ x4 ≤ 2147483647 := by omega) (hx5 : (-2147483648 : Int) ≤ x5 ∧ x5 ≤ 2147483647 := by omega) (hx6 : (-2147483648 : Int) ≤ x6 ∧ x6 ≤ 2147483647 := by omega) (hx7 : (-2147483648 : Int) ≤ x7 ∧ x7 ≤ 2147483647 := by omega) (hx8 : (-2147483648 : Int) ≤ x8 ∧ x8 ≤ 2147483647 := by omega) :
    RW g C S m A 115 76 [some (.ref m), some (.int (iI x1)), some (.int (iI x2)), some (.int (iI x3)), some (.int (iI x4)), some (.int (iI x5)), some (.int (iI x6)), some (.int (iI x7)), some (.int (iI x8))] [] v Q := by
  refine qv_R (fun hvv => ?_)
  refine qv_g (pc' := 78) (ls' := [some (.ref m), some (.int (iI x1)), some (.int (iI x2)), some (.int (iI x3)), some (.int (iI x4)), some (.int (iI x5)), some (.int (iI x6)), some (.int (iI x7)), some (.int (iI x8))]) (st' := [.int (iI x8)]) dX7_putWords_76 (fun _ _ => rfl) ?_
  refine qv_g (pc' := 79) (ls' := [some (.ref m), some (.int (iI x1)), some (.int (iI x2)), some (.int (iI x3)), some (.int (iI x4)), some (.int (iI x5)), some (.int (iI x6)), some (.int (iI x7)), some (.int (iI x8))]) (st' := [.ref m, .int (iI x8)]) dX7_putWords_78 (fun _ _ => rfl) ?_
  refine qv_getA dX7_putWords_79 rfl rfl (by decide) ?_
  refine qv_g (pc' := 84) (ls' := [some (.ref m), some (.int (iI x1)), some (.int (iI x2)), some (.int (iI x3)), some (.int (iI x4)), some (.int (iI x5)), some (.int (iI x6)), some (.int (iI x7)), some (.int (iI x8))]) (st' := [.int (iI x7), .ref (A 16), .int (iI x8)]) dX7_putWords_82 (fun _ _ => rfl) ?_
  obtain ⟨hr1, h⟩ := h
  refine qv_iald dX7_putWords_84 (by decide) hr1 (by decide) ?_
  obtain ⟨h1, h2⟩ := h
  refine qv_icmp (t := 105) dX7_putWords_85 (by decide) (d_ge hx8 (hvv _ _)) (fun c => ?_) (fun c => ?_)
  · have h := h1 c
    exact h
  · have h := h2 (Int.not_le.mp c)
    refine qv_g (pc' := 89) (ls' := [some (.ref m), some (.int (iI x1)), some (.int (iI x2)), some (.int (iI x3)), some (.int (iI x4)), some (.int (iI x5)), some (.int (iI x6)), some (.int (iI x7)), some (.int (iI x8))]) (st' := [.ref m]) dX7_putWords_88 (fun _ _ => rfl) ?_
    refine qv_g (pc' := 90) (ls' := [some (.ref m), some (.int (iI x1)), some (.int (iI x2)), some (.int (iI x3)), some (.int (iI x4)), some (.int (iI x5)), some (.int (iI x6)), some (.int (iI x7)), some (.int (iI x8))]) (st' := [.ref m, .ref m]) dX7_putWords_89 (fun _ _ => rfl) ?_
    refine qv_getA dX7_putWords_90 rfl rfl (by decide) ?_
    refine qv_g (pc' := 95) (ls' := [some (.ref m), some (.int (iI x1)), some (.int (iI x2)), some (.int (iI x3)), some (.int (iI x4)), some (.int (iI x5)), some (.int (iI x6)), some (.int (iI x7)), some (.int (iI x8))]) (st' := [.int (iI x8), .ref (A 13), .ref m]) dX7_putWords_93 (fun _ _ => rfl) ?_
    obtain ⟨hr2, h⟩ := h
    refine qv_iald dX7_putWords_95 (by decide) hr2 (by decide) ?_
    exact qv_call dX7_putWords_96 (fun _ _ => ex_calV rfl (by decide)) rfl (Nat.le_of_ble_eq_true rfl) (Nat.le_of_ble_eq_true rfl) (Nat.le_of_ble_eq_true rfl) (fun _ hm => rcv0 rfl rfl (by decide) hm) rfl rfl rfl h
theorem v115_99 {v : VS} {Q : Rs → VS → Prop} {x1 : Int} {x2 : Int} {x3 : Int} {x4 : Int} {x5 : Int} {x6 : Int} {x7 : Int} {x8 : Int}
    (h : ((-2147483648 : Int) ≤ x8 + 1 ∧ x8 + 1 ≤ 2147483647) ∧ RW g C S m A 115 76 [some (.ref m), some (.int (iI x1)), some (.int (iI x2)), some (.int (iI x3)), some (.int (iI x4)), some (.int (iI x5)), some (.int (iI x6)), some (.int (iI x7)), some (.int (iI (x8 + 1)))] [] v Q) (hx1 : (-2147483648 : Int) ≤ x1 ∧ x1 ≤ 2147483647 := by omega) (hx2 : (-2147483648 : Int) ≤ x2 ∧ x2 ≤ 2147483647 := by omega) (hx3 : (-2147483648 : Int) ≤ x3 ∧ x3 ≤ 2147483647 := by omega) (hx4 : (-2147483648 : Int) ≤ x4 ∧ x4 ≤ 2147483647 := by omega) (hx5 : (-2147483648 : Int) ≤ x5 ∧ x5 ≤ 2147483647 := by omega) (hx6 : (-2147483648 : Int) ≤ x6 ∧ x6 ≤ 2147483647 := by omega) (hx7 : (-2147483648 : Int) ≤ x7 ∧ x7 ≤ 2147483647 := by omega) (hx8 : (-2147483648 : Int) ≤ x8 ∧ x8 ≤ 2147483647 := by omega) :
    RW g C S m A 115 99 [some (.ref m), some (.int (iI x1)), some (.int (iI x2)), some (.int (iI x3)), some (.int (iI x4)), some (.int (iI x5)), some (.int (iI x6)), some (.int (iI x7)), some (.int (iI x8))] [] v Q := by
  refine qv_R (fun hvv => ?_)
  obtain ⟨hr1, h⟩ := h
  refine qv_inc (ls' := [some (.ref m), some (.int (iI x1)), some (.int (iI x2)), some (.int (iI x3)), some (.int (iI x4)), some (.int (iI x5)), some (.int (iI x6)), some (.int (iI x7)), some (.int (iI (x8 + 1)))]) dX7_putWords_99 rfl (Nat.le_of_ble_eq_true rfl) rfl ?_
  refine qv_goto (t := 76) dX7_putWords_102 (by decide) ?_
  exact h
theorem v115_105 {v : VS} {Q : Rs → VS → Prop} {x1 : Int} {x2 : Int} {x3 : Int} {x4 : Int} {x5 : Int} {x6 : Int} {x7 : Int} {l8 : Option Value}
    (h : ((-2147483648 : Int) ≤ x7 + 1 ∧ x7 + 1 ≤ 2147483647) ∧ RW g C S m A 115 15 [some (.ref m), some (.int (iI x1)), some (.int (iI x2)), some (.int (iI x3)), some (.int (iI x4)), some (.int (iI x5)), some (.int (iI x6)), some (.int (iI (x7 + 1))), l8] [] v Q) (hx1 : (-2147483648 : Int) ≤ x1 ∧ x1 ≤ 2147483647 := by omega) (hx2 : (-2147483648 : Int) ≤ x2 ∧ x2 ≤ 2147483647 := by omega) (hx3 : (-2147483648 : Int) ≤ x3 ∧ x3 ≤ 2147483647 := by omega) (hx4 : (-2147483648 : Int) ≤ x4 ∧ x4 ≤ 2147483647 := by omega) (hx5 : (-2147483648 : Int) ≤ x5 ∧ x5 ≤ 2147483647 := by omega) (hx6 : (-2147483648 : Int) ≤ x6 ∧ x6 ≤ 2147483647 := by omega) (hx7 : (-2147483648 : Int) ≤ x7 ∧ x7 ≤ 2147483647 := by omega) :
    RW g C S m A 115 105 [some (.ref m), some (.int (iI x1)), some (.int (iI x2)), some (.int (iI x3)), some (.int (iI x4)), some (.int (iI x5)), some (.int (iI x6)), some (.int (iI x7)), l8] [] v Q := by
  refine qv_R (fun hvv => ?_)
  obtain ⟨hr1, h⟩ := h
  refine qv_inc (ls' := [some (.ref m), some (.int (iI x1)), some (.int (iI x2)), some (.int (iI x3)), some (.int (iI x4)), some (.int (iI x5)), some (.int (iI x6)), some (.int (iI (x7 + 1))), l8]) dX7_putWords_105 rfl (Nat.le_of_ble_eq_true rfl) rfl ?_
  refine qv_goto (t := 15) dX7_putWords_108 (by decide) ?_
  exact h
theorem v115_136 {v : VS} {Q : Rs → VS → Prop} {l0 : Option Value} {l1 : Option Value} {l2 : Option Value} {l3 : Option Value} {l4 : Option Value} {l5 : Option Value} {l6 : Option Value} {l7 : Option Value} {l8 : Option Value} {u0 : Int}
    (h : (∀ w1, w1 = uv v 21 0 u0 → Q (Sum.inl none) w1)) (hu0 : (-2147483648 : Int) ≤ u0 ∧ u0 ≤ 2147483647 := by omega) :
    RW g C S m A 115 136 [l0, l1, l2, l3, l4, l5, l6, l7, l8] [.int (iI u0), .ref m] v Q := by
  refine qv_R (fun hvv => ?_)
  refine qv_putI dX7_putWords_136 rfl rfl (Or.inl rfl) rfl (Or.inl rfl) hu0 ?_
  generalize ew1 : uv v 21 0 u0 = w1
  replace h := h _ ew1.symm
  refine qv_R (fun hvw1 => ?_)
  exact qv_vret dX7_putWords_139 rfl h
theorem v116_0 {v : VS} {Q : Rs → VS → Prop} {x1 : Int} {x2 : Int} {x3 : Int} {l4 : Option Value} {l5 : Option Value}
    (h : ((-2147483648 : Int) ≤ 64 * x1 ∧ 64 * x1 ≤ 2147483647) ∧ RW g C S m A 116 9 [some (.ref m), some (.int (iI x1)), some (.int (iI x2)), some (.int (iI x3)), some (.int (iI 0)), some (.int (iI (64 * x1)))] [] v Q) (hx1 : (-2147483648 : Int) ≤ x1 ∧ x1 ≤ 2147483647 := by omega) (hx2 : (-2147483648 : Int) ≤ x2 ∧ x2 ≤ 2147483647 := by omega) (hx3 : (-2147483648 : Int) ≤ x3 ∧ x3 ≤ 2147483647 := by omega) :
    RW g C S m A 116 0 [some (.ref m), some (.int (iI x1)), some (.int (iI x2)), some (.int (iI x3)), l4, l5] [] v Q := by
  refine qv_R (fun hvv => ?_)
  refine qv_ic dX7_has_0 ?_
  refine qv_g (pc' := 3) (ls' := [some (.ref m), some (.int (iI x1)), some (.int (iI x2)), some (.int (iI x3)), some (.int (iI 0)), l5]) (st' := []) dX7_has_1 (fun _ _ => rfl) ?_
  refine qv_bi dX7_has_3 (by decide) ?_
  refine qv_g (pc' := 6) (ls' := [some (.ref m), some (.int (iI x1)), some (.int (iI x2)), some (.int (iI x3)), some (.int (iI 0)), l5]) (st' := [.int (iI x1), .int (iI 64)]) dX7_has_5 (fun _ _ => rfl) ?_
  obtain ⟨hr1, h⟩ := h
  refine qv_mul dX7_has_6 ?_
  refine qv_g (pc' := 9) (ls' := [some (.ref m), some (.int (iI x1)), some (.int (iI x2)), some (.int (iI x3)), some (.int (iI 0)), some (.int (iI (64 * x1)))]) (st' := []) dX7_has_7 (fun _ _ => rfl) ?_
  exact h
theorem v116_9 {v : VS} {Q : Rs → VS → Prop} {x1 : Int} {x2 : Int} {x3 : Int} {x4 : Int} {x5 : Int}
    (h : ((-2147483648 : Int) ≤ 64 * x1 ∧ 64 * x1 ≤ 2147483647) ∧ ((0 : Int) ≤ x1 ∧ (x1 : Int) < 2) ∧ ((-2147483648 : Int) ≤ (64 * x1) + (v 14 x1) ∧ (64 * x1) + (v 14 x1) ≤ 2147483647) ∧ ((64 * x1) + (v 14 x1) ≤ x5 → (x4 = 0 ∨ x4 = 1) ∧ Q (Sum.inl (some (.int (iI x4)))) v) ∧ (x5 < (64 * x1) + (v 14 x1) → (¬ x4 = 0 → RW g C S m A 116 52 [some (.ref m), some (.int (iI x1)), some (.int (iI x2)), some (.int (iI x3)), some (.int (iI x4)), some (.int (iI x5))] [] v Q) ∧ (x4 = 0 → ((0 : Int) ≤ x5 ∧ (x5 : Int) < 128) ∧ (¬ v 17 x5 = x2 → RW g C S m A 116 56 [some (.ref m), some (.int (iI x1)), some (.int (iI x2)), some (.int (iI x3)), some (.int (iI x4)), some (.int (iI x5))] [] v Q) ∧ (v 17 x5 = x2 → ((0 : Int) ≤ x5 ∧ (x5 : Int) < 128) ∧ (¬ v 18 x5 = x3 → RW g C S m A 116 56 [some (.ref m), some (.int (iI x1)), some (.int (iI x2)), some (.int (iI x3)), some (.int (iI x4)), some (.int (iI x5))] [] v Q) ∧ (v 18 x5 = x3 → RW g C S m A 116 52 [some (.ref m), some (.int (iI x1)), some (.int (iI x2)), some (.int (iI x3)), some (.int (iI x4)), some (.int (iI x5))] [] v Q))))) (hx1 : (-2147483648 : Int) ≤ x1 ∧ x1 ≤ 2147483647 := by omega) (hx2 : (-2147483648 : Int) ≤ x2 ∧ x2 ≤ 2147483647 := by omega) (hx3 : (-2147483648 : Int) ≤ x3 ∧ x3 ≤ 2147483647 := by omega) (hx4 : (-2147483648 : Int) ≤ x4 ∧ x4 ≤ 2147483647 := by omega) (hx5 : (-2147483648 : Int) ≤ x5 ∧ x5 ≤ 2147483647 := by omega) :
    RW g C S m A 116 9 [some (.ref m), some (.int (iI x1)), some (.int (iI x2)), some (.int (iI x3)), some (.int (iI x4)), some (.int (iI x5))] [] v Q := by
  refine qv_R (fun hvv => ?_)
  refine qv_g (pc' := 11) (ls' := [some (.ref m), some (.int (iI x1)), some (.int (iI x2)), some (.int (iI x3)), some (.int (iI x4)), some (.int (iI x5))]) (st' := [.int (iI x5)]) dX7_has_9 (fun _ _ => rfl) ?_
  refine qv_bi dX7_has_11 (by decide) ?_
  refine qv_g (pc' := 14) (ls' := [some (.ref m), some (.int (iI x1)), some (.int (iI x2)), some (.int (iI x3)), some (.int (iI x4)), some (.int (iI x5))]) (st' := [.int (iI x1), .int (iI 64), .int (iI x5)]) dX7_has_13 (fun _ _ => rfl) ?_
  obtain ⟨hr1, h⟩ := h
  refine qv_mul dX7_has_14 ?_
  refine qv_g (pc' := 16) (ls' := [some (.ref m), some (.int (iI x1)), some (.int (iI x2)), some (.int (iI x3)), some (.int (iI x4)), some (.int (iI x5))]) (st' := [.ref m, .int (iI (64 * x1)), .int (iI x5)]) dX7_has_15 (fun _ _ => rfl) ?_
  refine qv_getA dX7_has_16 rfl rfl (by decide) ?_
  refine qv_g (pc' := 20) (ls' := [some (.ref m), some (.int (iI x1)), some (.int (iI x2)), some (.int (iI x3)), some (.int (iI x4)), some (.int (iI x5))]) (st' := [.int (iI x1), .ref (A 14), .int (iI (64 * x1)), .int (iI x5)]) dX7_has_19 (fun _ _ => rfl) ?_
  obtain ⟨hr2, h⟩ := h
  refine qv_iald dX7_has_20 (by decide) hr2 (by decide) ?_
  obtain ⟨hr3, h⟩ := h
  refine qv_add dX7_has_21 ?_
  obtain ⟨h1, h2⟩ := h
  refine qv_icmp (t := 65) dX7_has_22 (by decide) (d_ge hx5 hr3) (fun c => ?_) (fun c => ?_)
  · have h := h1 c
    refine qv_g (pc' := 67) (ls' := [some (.ref m), some (.int (iI x1)), some (.int (iI x2)), some (.int (iI x3)), some (.int (iI x4)), some (.int (iI x5))]) (st' := [.int (iI x4)]) dX7_has_65 (fun _ _ => rfl) ?_
    obtain ⟨hn, h⟩ := h
    exact qv_ret dX7_has_67 (by rcases hn with q | q <;> rw [q] <;> rfl) h
  · have h := h2 (Int.not_le.mp c)
    refine qv_g (pc' := 27) (ls' := [some (.ref m), some (.int (iI x1)), some (.int (iI x2)), some (.int (iI x3)), some (.int (iI x4)), some (.int (iI x5))]) (st' := [.int (iI x4)]) dX7_has_25 (fun _ _ => rfl) ?_
    obtain ⟨h1, h2⟩ := h
    refine qv_if (t := 52) dX7_has_27 (by decide) (d_ne hx4 (by decide)) (fun c => ?_) (fun c => ?_)
    · have h := h1 c
      exact h
    · have h := h2 (Decidable.of_not_not c)
      refine qv_g (pc' := 31) (ls' := [some (.ref m), some (.int (iI x1)), some (.int (iI x2)), some (.int (iI x3)), some (.int (iI x4)), some (.int (iI x5))]) (st' := [.ref m]) dX7_has_30 (fun _ _ => rfl) ?_
      refine qv_getA dX7_has_31 rfl rfl (by decide) ?_
      refine qv_g (pc' := 36) (ls' := [some (.ref m), some (.int (iI x1)), some (.int (iI x2)), some (.int (iI x3)), some (.int (iI x4)), some (.int (iI x5))]) (st' := [.int (iI x5), .ref (A 17)]) dX7_has_34 (fun _ _ => rfl) ?_
      obtain ⟨hr4, h⟩ := h
      refine qv_iald dX7_has_36 (by decide) hr4 (by decide) ?_
      refine qv_g (pc' := 38) (ls' := [some (.ref m), some (.int (iI x1)), some (.int (iI x2)), some (.int (iI x3)), some (.int (iI x4)), some (.int (iI x5))]) (st' := [.int (iI x2), .int (iI (v 17 x5))]) dX7_has_37 (fun _ _ => rfl) ?_
      obtain ⟨h1, h2⟩ := h
      refine qv_icmp (t := 56) dX7_has_38 (by decide) (d_ne (hvv _ _) hx2) (fun c => ?_) (fun c => ?_)
      · have h := h1 c
        exact h
      · have h := h2 (Decidable.of_not_not c)
        refine qv_g (pc' := 42) (ls' := [some (.ref m), some (.int (iI x1)), some (.int (iI x2)), some (.int (iI x3)), some (.int (iI x4)), some (.int (iI x5))]) (st' := [.ref m]) dX7_has_41 (fun _ _ => rfl) ?_
        refine qv_getA dX7_has_42 rfl rfl (by decide) ?_
        refine qv_g (pc' := 47) (ls' := [some (.ref m), some (.int (iI x1)), some (.int (iI x2)), some (.int (iI x3)), some (.int (iI x4)), some (.int (iI x5))]) (st' := [.int (iI x5), .ref (A 18)]) dX7_has_45 (fun _ _ => rfl) ?_
        obtain ⟨hr5, h⟩ := h
        refine qv_iald dX7_has_47 (by decide) hr5 (by decide) ?_
        refine qv_g (pc' := 49) (ls' := [some (.ref m), some (.int (iI x1)), some (.int (iI x2)), some (.int (iI x3)), some (.int (iI x4)), some (.int (iI x5))]) (st' := [.int (iI x3), .int (iI (v 18 x5))]) dX7_has_48 (fun _ _ => rfl) ?_
        obtain ⟨h1, h2⟩ := h
        refine qv_icmp (t := 56) dX7_has_49 (by decide) (d_ne (hvv _ _) hx3) (fun c => ?_) (fun c => ?_)
        · have h := h1 c
          exact h
        · have h := h2 (Decidable.of_not_not c)
          exact h
theorem v116_52 {v : VS} {Q : Rs → VS → Prop} {x1 : Int} {x2 : Int} {x3 : Int} {l4 : Option Value} {x5 : Int}
    (h : RW g C S m A 116 57 [some (.ref m), some (.int (iI x1)), some (.int (iI x2)), some (.int (iI x3)), l4, some (.int (iI x5))] [.int (iI 1)] v Q) (hx1 : (-2147483648 : Int) ≤ x1 ∧ x1 ≤ 2147483647 := by omega) (hx2 : (-2147483648 : Int) ≤ x2 ∧ x2 ≤ 2147483647 := by omega) (hx3 : (-2147483648 : Int) ≤ x3 ∧ x3 ≤ 2147483647 := by omega) (hx5 : (-2147483648 : Int) ≤ x5 ∧ x5 ≤ 2147483647 := by omega) :
    RW g C S m A 116 52 [some (.ref m), some (.int (iI x1)), some (.int (iI x2)), some (.int (iI x3)), l4, some (.int (iI x5))] [] v Q := by
  refine qv_R (fun hvv => ?_)
  refine qv_ic dX7_has_52 ?_
  refine qv_goto (t := 57) dX7_has_53 (by decide) ?_
  exact h
theorem v116_56 {v : VS} {Q : Rs → VS → Prop} {x1 : Int} {x2 : Int} {x3 : Int} {l4 : Option Value} {x5 : Int}
    (h : RW g C S m A 116 57 [some (.ref m), some (.int (iI x1)), some (.int (iI x2)), some (.int (iI x3)), l4, some (.int (iI x5))] [.int (iI 0)] v Q) (hx1 : (-2147483648 : Int) ≤ x1 ∧ x1 ≤ 2147483647 := by omega) (hx2 : (-2147483648 : Int) ≤ x2 ∧ x2 ≤ 2147483647 := by omega) (hx3 : (-2147483648 : Int) ≤ x3 ∧ x3 ≤ 2147483647 := by omega) (hx5 : (-2147483648 : Int) ≤ x5 ∧ x5 ≤ 2147483647 := by omega) :
    RW g C S m A 116 56 [some (.ref m), some (.int (iI x1)), some (.int (iI x2)), some (.int (iI x3)), l4, some (.int (iI x5))] [] v Q := by
  refine qv_R (fun hvv => ?_)
  refine qv_ic dX7_has_56 ?_
  exact h
theorem v116_57 {v : VS} {Q : Rs → VS → Prop} {x1 : Int} {x2 : Int} {x3 : Int} {l4 : Option Value} {x5 : Int} {u0 : Int}
    (h : ((-2147483648 : Int) ≤ x5 + 1 ∧ x5 + 1 ≤ 2147483647) ∧ RW g C S m A 116 9 [some (.ref m), some (.int (iI x1)), some (.int (iI x2)), some (.int (iI x3)), some (.int (iI u0)), some (.int (iI (x5 + 1)))] [] v Q) (hx1 : (-2147483648 : Int) ≤ x1 ∧ x1 ≤ 2147483647 := by omega) (hx2 : (-2147483648 : Int) ≤ x2 ∧ x2 ≤ 2147483647 := by omega) (hx3 : (-2147483648 : Int) ≤ x3 ∧ x3 ≤ 2147483647 := by omega) (hx5 : (-2147483648 : Int) ≤ x5 ∧ x5 ≤ 2147483647 := by omega) (hu0 : (-2147483648 : Int) ≤ u0 ∧ u0 ≤ 2147483647 := by omega) :
    RW g C S m A 116 57 [some (.ref m), some (.int (iI x1)), some (.int (iI x2)), some (.int (iI x3)), l4, some (.int (iI x5))] [.int (iI u0)] v Q := by
  refine qv_R (fun hvv => ?_)
  refine qv_g (pc' := 59) (ls' := [some (.ref m), some (.int (iI x1)), some (.int (iI x2)), some (.int (iI x3)), some (.int (iI u0)), some (.int (iI x5))]) (st' := []) dX7_has_57 (fun _ _ => rfl) ?_
  obtain ⟨hr1, h⟩ := h
  refine qv_inc (ls' := [some (.ref m), some (.int (iI x1)), some (.int (iI x2)), some (.int (iI x3)), some (.int (iI u0)), some (.int (iI (x5 + 1)))]) dX7_has_59 rfl (Nat.le_of_ble_eq_true rfl) rfl ?_
  refine qv_goto (t := 9) dX7_has_62 (by decide) ?_
  exact h
theorem v117_0 {v : VS} {Q : Rs → VS → Prop} {x1 : Int} {x2 : Int}
    (h : RW g C S m A 115 0 [some (.ref m), some (.int (iI x1)), some (.int (iI x2)), some (.int (iI 1)), some (.int (iI 1000)), none, none, none, none] [] v (VK g C S m A 117 10 [some (.ref m), some (.int (iI x1)), some (.int (iI x2))] [] Q)) (hx1 : (-2147483648 : Int) ≤ x1 ∧ x1 ≤ 2147483647 := by omega) (hx2 : (-2147483648 : Int) ≤ x2 ∧ x2 ≤ 2147483647 := by omega) :
    RW g C S m A 117 0 [some (.ref m), some (.int (iI x1)), some (.int (iI x2))] [] v Q := by
  refine qv_R (fun hvv => ?_)
  refine qv_g (pc' := 1) (ls' := [some (.ref m), some (.int (iI x1)), some (.int (iI x2))]) (st' := [.ref m]) dX7_putName_0 (fun _ _ => rfl) ?_
  refine qv_g (pc' := 2) (ls' := [some (.ref m), some (.int (iI x1)), some (.int (iI x2))]) (st' := [.int (iI x1), .ref m]) dX7_putName_1 (fun _ _ => rfl) ?_
  refine qv_g (pc' := 3) (ls' := [some (.ref m), some (.int (iI x1)), some (.int (iI x2))]) (st' := [.int (iI x2), .int (iI x1), .ref m]) dX7_putName_2 (fun _ _ => rfl) ?_
  refine qv_ic dX7_putName_3 ?_
  refine qv_si dX7_putName_4 (by decide) ?_
  exact qv_call dX7_putName_7 (fun _ _ => ex_calV rfl (by decide)) rfl (Nat.le_of_ble_eq_true rfl) (Nat.le_of_ble_eq_true rfl) (Nat.le_of_ble_eq_true rfl) (fun _ hm => rcv0 rfl rfl (by decide) hm) rfl rfl rfl h
theorem v117_10 {v : VS} {Q : Rs → VS → Prop} {x1 : Int} {x2 : Int}
    (h : RW g C S m A 116 0 [some (.ref m), some (.int (iI x1)), some (.int (iI x2)), some (.int (iI 1)), none, none] [] v (VK g C S m A 117 17 [some (.ref m), some (.int (iI x1)), some (.int (iI x2))] [] Q)) (hx1 : (-2147483648 : Int) ≤ x1 ∧ x1 ≤ 2147483647 := by omega) (hx2 : (-2147483648 : Int) ≤ x2 ∧ x2 ≤ 2147483647 := by omega) :
    RW g C S m A 117 10 [some (.ref m), some (.int (iI x1)), some (.int (iI x2))] [] v Q := by
  refine qv_R (fun hvv => ?_)
  refine qv_g (pc' := 11) (ls' := [some (.ref m), some (.int (iI x1)), some (.int (iI x2))]) (st' := [.ref m]) dX7_putName_10 (fun _ _ => rfl) ?_
  refine qv_g (pc' := 12) (ls' := [some (.ref m), some (.int (iI x1)), some (.int (iI x2))]) (st' := [.int (iI x1), .ref m]) dX7_putName_11 (fun _ _ => rfl) ?_
  refine qv_g (pc' := 13) (ls' := [some (.ref m), some (.int (iI x1)), some (.int (iI x2))]) (st' := [.int (iI x2), .int (iI x1), .ref m]) dX7_putName_12 (fun _ _ => rfl) ?_
  refine qv_ic dX7_putName_13 ?_
  exact qv_call dX7_putName_14 (fun _ _ => ex_calV rfl (by decide)) rfl (Nat.le_of_ble_eq_true rfl) (Nat.le_of_ble_eq_true rfl) (Nat.le_of_ble_eq_true rfl) (fun _ hm => rcv0 rfl rfl (by decide) hm) rfl rfl rfl h
theorem v117_17 {v : VS} {Q : Rs → VS → Prop} {x1 : Int} {x2 : Int} {u0 : Int}
    (h : (u0 = 0 → RW g C S m A 117 36 [some (.ref m), some (.int (iI x1)), some (.int (iI x2))] [] v Q) ∧ (¬ u0 = 0 → RW g C S m A 116 0 [some (.ref m), some (.int (iI x1)), some (.int (iI x2)), some (.int (iI 2)), none, none] [] v (VK g C S m A 117 27 [some (.ref m), some (.int (iI x1)), some (.int (iI x2))] [] Q))) (hx1 : (-2147483648 : Int) ≤ x1 ∧ x1 ≤ 2147483647 := by omega) (hx2 : (-2147483648 : Int) ≤ x2 ∧ x2 ≤ 2147483647 := by omega) (hu0 : (-2147483648 : Int) ≤ u0 ∧ u0 ≤ 2147483647 := by omega) :
    RW g C S m A 117 17 [some (.ref m), some (.int (iI x1)), some (.int (iI x2))] [.int (iI u0)] v Q := by
  refine qv_R (fun hvv => ?_)
  obtain ⟨h1, h2⟩ := h
  refine qv_if (t := 36) dX7_putName_17 (by decide) (d_eq hu0 (by decide)) (fun c => ?_) (fun c => ?_)
  · have h := h1 c
    exact h
  · have h := h2 c
    refine qv_g (pc' := 21) (ls' := [some (.ref m), some (.int (iI x1)), some (.int (iI x2))]) (st' := [.ref m]) dX7_putName_20 (fun _ _ => rfl) ?_
    refine qv_g (pc' := 22) (ls' := [some (.ref m), some (.int (iI x1)), some (.int (iI x2))]) (st' := [.int (iI x1), .ref m]) dX7_putName_21 (fun _ _ => rfl) ?_
    refine qv_g (pc' := 23) (ls' := [some (.ref m), some (.int (iI x1)), some (.int (iI x2))]) (st' := [.int (iI x2), .int (iI x1), .ref m]) dX7_putName_22 (fun _ _ => rfl) ?_
    refine qv_ic dX7_putName_23 ?_
    exact qv_call dX7_putName_24 (fun _ _ => ex_calV rfl (by decide)) rfl (Nat.le_of_ble_eq_true rfl) (Nat.le_of_ble_eq_true rfl) (Nat.le_of_ble_eq_true rfl) (fun _ hm => rcv0 rfl rfl (by decide) hm) rfl rfl rfl h
theorem v117_27 {v : VS} {Q : Rs → VS → Prop} {x1 : Int} {x2 : Int} {u0 : Int}
    (h : (u0 = 0 → RW g C S m A 117 36 [some (.ref m), some (.int (iI x1)), some (.int (iI x2))] [] v Q) ∧ (¬ u0 = 0 → RW g C S m A 111 0 [some (.ref m), some (.int (iI 32))] [] v (VK g C S m A 117 36 [some (.ref m), some (.int (iI x1)), some (.int (iI x2))] [] Q))) (hx1 : (-2147483648 : Int) ≤ x1 ∧ x1 ≤ 2147483647 := by omega) (hx2 : (-2147483648 : Int) ≤ x2 ∧ x2 ≤ 2147483647 := by omega) (hu0 : (-2147483648 : Int) ≤ u0 ∧ u0 ≤ 2147483647 := by omega) :
    RW g C S m A 117 27 [some (.ref m), some (.int (iI x1)), some (.int (iI x2))] [.int (iI u0)] v Q := by
  refine qv_R (fun hvv => ?_)
  obtain ⟨h1, h2⟩ := h
  refine qv_if (t := 36) dX7_putName_27 (by decide) (d_eq hu0 (by decide)) (fun c => ?_) (fun c => ?_)
  · have h := h1 c
    exact h
  · have h := h2 c
    refine qv_g (pc' := 31) (ls' := [some (.ref m), some (.int (iI x1)), some (.int (iI x2))]) (st' := [.ref m]) dX7_putName_30 (fun _ _ => rfl) ?_
    refine qv_bi dX7_putName_31 (by decide) ?_
    exact qv_call dX7_putName_33 (fun _ _ => ex_calV rfl (by decide)) rfl (Nat.le_of_ble_eq_true rfl) (Nat.le_of_ble_eq_true rfl) (Nat.le_of_ble_eq_true rfl) (fun _ hm => rcv0 rfl rfl (by decide) hm) rfl rfl rfl h
theorem v117_36 {v : VS} {Q : Rs → VS → Prop} {x1 : Int} {x2 : Int}
    (h : RW g C S m A 115 0 [some (.ref m), some (.int (iI x1)), some (.int (iI x2)), some (.int (iI 2)), some (.int (iI 1000)), none, none, none, none] [] v (VK g C S m A 117 46 [some (.ref m), some (.int (iI x1)), some (.int (iI x2))] [] Q)) (hx1 : (-2147483648 : Int) ≤ x1 ∧ x1 ≤ 2147483647 := by omega) (hx2 : (-2147483648 : Int) ≤ x2 ∧ x2 ≤ 2147483647 := by omega) :
    RW g C S m A 117 36 [some (.ref m), some (.int (iI x1)), some (.int (iI x2))] [] v Q := by
  refine qv_R (fun hvv => ?_)
  refine qv_g (pc' := 37) (ls' := [some (.ref m), some (.int (iI x1)), some (.int (iI x2))]) (st' := [.ref m]) dX7_putName_36 (fun _ _ => rfl) ?_
  refine qv_g (pc' := 38) (ls' := [some (.ref m), some (.int (iI x1)), some (.int (iI x2))]) (st' := [.int (iI x1), .ref m]) dX7_putName_37 (fun _ _ => rfl) ?_
  refine qv_g (pc' := 39) (ls' := [some (.ref m), some (.int (iI x1)), some (.int (iI x2))]) (st' := [.int (iI x2), .int (iI x1), .ref m]) dX7_putName_38 (fun _ _ => rfl) ?_
  refine qv_ic dX7_putName_39 ?_
  refine qv_si dX7_putName_40 (by decide) ?_
  exact qv_call dX7_putName_43 (fun _ _ => ex_calV rfl (by decide)) rfl (Nat.le_of_ble_eq_true rfl) (Nat.le_of_ble_eq_true rfl) (Nat.le_of_ble_eq_true rfl) (fun _ hm => rcv0 rfl rfl (by decide) hm) rfl rfl rfl h
theorem v117_46 {v : VS} {Q : Rs → VS → Prop} {l0 : Option Value} {l1 : Option Value} {l2 : Option Value}
    (h : Q (Sum.inl none) v)  :
    RW g C S m A 117 46 [l0, l1, l2] [] v Q := by
  refine qv_R (fun hvv => ?_)
  exact qv_vret dX7_putName_46 rfl h
theorem v118_0 {v : VS} {Q : Rs → VS → Prop} {x1 : Int} {x2 : Int} {l3 : Option Value} {l4 : Option Value}
    (h : ((-2147483648 : Int) ≤ 64 * x1 ∧ 64 * x1 ≤ 2147483647) ∧ RW g C S m A 118 8 [some (.ref m), some (.int (iI x1)), some (.int (iI x2)), some (.int (iI 0)), some (.int (iI (64 * x1)))] [] v Q) (hx1 : (-2147483648 : Int) ≤ x1 ∧ x1 ≤ 2147483647 := by omega) (hx2 : (-2147483648 : Int) ≤ x2 ∧ x2 ≤ 2147483647 := by omega) :
    RW g C S m A 118 0 [some (.ref m), some (.int (iI x1)), some (.int (iI x2)), l3, l4] [] v Q := by
  refine qv_R (fun hvv => ?_)
  refine qv_ic dX7_putInitials_0 ?_
  refine qv_g (pc' := 2) (ls' := [some (.ref m), some (.int (iI x1)), some (.int (iI x2)), some (.int (iI 0)), l4]) (st' := []) dX7_putInitials_1 (fun _ _ => rfl) ?_
  refine qv_bi dX7_putInitials_2 (by decide) ?_
  refine qv_g (pc' := 5) (ls' := [some (.ref m), some (.int (iI x1)), some (.int (iI x2)), some (.int (iI 0)), l4]) (st' := [.int (iI x1), .int (iI 64)]) dX7_putInitials_4 (fun _ _ => rfl) ?_
  obtain ⟨hr1, h⟩ := h
  refine qv_mul dX7_putInitials_5 ?_
  refine qv_g (pc' := 8) (ls' := [some (.ref m), some (.int (iI x1)), some (.int (iI x2)), some (.int (iI 0)), some (.int (iI (64 * x1)))]) (st' := []) dX7_putInitials_6 (fun _ _ => rfl) ?_
  exact h
theorem v118_8 {v : VS} {Q : Rs → VS → Prop} {x1 : Int} {x2 : Int} {x3 : Int} {x4 : Int}
    (h : ((-2147483648 : Int) ≤ 64 * x1 ∧ 64 * x1 ≤ 2147483647) ∧ ((0 : Int) ≤ x1 ∧ (x1 : Int) < 2) ∧ ((-2147483648 : Int) ≤ (64 * x1) + (v 14 x1) ∧ (64 * x1) + (v 14 x1) ≤ 2147483647) ∧ ((64 * x1) + (v 14 x1) ≤ x4 → Q (Sum.inl none) v) ∧ (x4 < (64 * x1) + (v 14 x1) → ((0 : Int) ≤ x4 ∧ (x4 : Int) < 128) ∧ (¬ v 17 x4 = x2 → RW g C S m A 118 79 [some (.ref m), some (.int (iI x1)), some (.int (iI x2)), some (.int (iI x3)), some (.int (iI x4))] [] v Q) ∧ (v 17 x4 = x2 → ((0 : Int) ≤ x4 ∧ (x4 : Int) < 128) ∧ (¬ v 18 x4 = 0 → RW g C S m A 118 79 [some (.ref m), some (.int (iI x1)), some (.int (iI x2)), some (.int (iI x3)), some (.int (iI x4))] [] v Q) ∧ (v 18 x4 = 0 → (x3 = 0 → RW g C S m A 118 55 [some (.ref m), some (.int (iI x1)), some (.int (iI x2)), some (.int (iI x3)), some (.int (iI x4))] [] v Q) ∧ (¬ x3 = 0 → RW g C S m A 111 0 [some (.ref m), some (.int (iI 32))] [] v (VK g C S m A 118 55 [some (.ref m), some (.int (iI x1)), some (.int (iI x2)), some (.int (iI x3)), some (.int (iI x4))] [] Q)))))) (hx1 : (-2147483648 : Int) ≤ x1 ∧ x1 ≤ 2147483647 := by omega) (hx2 : (-2147483648 : Int) ≤ x2 ∧ x2 ≤ 2147483647 := by omega) (hx3 : (-2147483648 : Int) ≤ x3 ∧ x3 ≤ 2147483647 := by omega) (hx4 : (-2147483648 : Int) ≤ x4 ∧ x4 ≤ 2147483647 := by omega) :
    RW g C S m A 118 8 [some (.ref m), some (.int (iI x1)), some (.int (iI x2)), some (.int (iI x3)), some (.int (iI x4))] [] v Q := by
  refine qv_R (fun hvv => ?_)
  refine qv_g (pc' := 10) (ls' := [some (.ref m), some (.int (iI x1)), some (.int (iI x2)), some (.int (iI x3)), some (.int (iI x4))]) (st' := [.int (iI x4)]) dX7_putInitials_8 (fun _ _ => rfl) ?_
  refine qv_bi dX7_putInitials_10 (by decide) ?_
  refine qv_g (pc' := 13) (ls' := [some (.ref m), some (.int (iI x1)), some (.int (iI x2)), some (.int (iI x3)), some (.int (iI x4))]) (st' := [.int (iI x1), .int (iI 64), .int (iI x4)]) dX7_putInitials_12 (fun _ _ => rfl) ?_
  obtain ⟨hr1, h⟩ := h
  refine qv_mul dX7_putInitials_13 ?_
  refine qv_g (pc' := 15) (ls' := [some (.ref m), some (.int (iI x1)), some (.int (iI x2)), some (.int (iI x3)), some (.int (iI x4))]) (st' := [.ref m, .int (iI (64 * x1)), .int (iI x4)]) dX7_putInitials_14 (fun _ _ => rfl) ?_
  refine qv_getA dX7_putInitials_15 rfl rfl (by decide) ?_
  refine qv_g (pc' := 19) (ls' := [some (.ref m), some (.int (iI x1)), some (.int (iI x2)), some (.int (iI x3)), some (.int (iI x4))]) (st' := [.int (iI x1), .ref (A 14), .int (iI (64 * x1)), .int (iI x4)]) dX7_putInitials_18 (fun _ _ => rfl) ?_
  obtain ⟨hr2, h⟩ := h
  refine qv_iald dX7_putInitials_19 (by decide) hr2 (by decide) ?_
  obtain ⟨hr3, h⟩ := h
  refine qv_add dX7_putInitials_20 ?_
  obtain ⟨h1, h2⟩ := h
  refine qv_icmp (t := 85) dX7_putInitials_21 (by decide) (d_ge hx4 hr3) (fun c => ?_) (fun c => ?_)
  · have h := h1 c
    exact qv_vret dX7_putInitials_85 rfl h
  · have h := h2 (Int.not_le.mp c)
    refine qv_g (pc' := 25) (ls' := [some (.ref m), some (.int (iI x1)), some (.int (iI x2)), some (.int (iI x3)), some (.int (iI x4))]) (st' := [.ref m]) dX7_putInitials_24 (fun _ _ => rfl) ?_
    refine qv_getA dX7_putInitials_25 rfl rfl (by decide) ?_
    refine qv_g (pc' := 30) (ls' := [some (.ref m), some (.int (iI x1)), some (.int (iI x2)), some (.int (iI x3)), some (.int (iI x4))]) (st' := [.int (iI x4), .ref (A 17)]) dX7_putInitials_28 (fun _ _ => rfl) ?_
    obtain ⟨hr4, h⟩ := h
    refine qv_iald dX7_putInitials_30 (by decide) hr4 (by decide) ?_
    refine qv_g (pc' := 32) (ls' := [some (.ref m), some (.int (iI x1)), some (.int (iI x2)), some (.int (iI x3)), some (.int (iI x4))]) (st' := [.int (iI x2), .int (iI (v 17 x4))]) dX7_putInitials_31 (fun _ _ => rfl) ?_
    obtain ⟨h1, h2⟩ := h
    refine qv_icmp (t := 79) dX7_putInitials_32 (by decide) (d_ne (hvv _ _) hx2) (fun c => ?_) (fun c => ?_)
    · have h := h1 c
      exact h
    · have h := h2 (Decidable.of_not_not c)
      refine qv_g (pc' := 36) (ls' := [some (.ref m), some (.int (iI x1)), some (.int (iI x2)), some (.int (iI x3)), some (.int (iI x4))]) (st' := [.ref m]) dX7_putInitials_35 (fun _ _ => rfl) ?_
      refine qv_getA dX7_putInitials_36 rfl rfl (by decide) ?_
      refine qv_g (pc' := 41) (ls' := [some (.ref m), some (.int (iI x1)), some (.int (iI x2)), some (.int (iI x3)), some (.int (iI x4))]) (st' := [.int (iI x4), .ref (A 18)]) dX7_putInitials_39 (fun _ _ => rfl) ?_
      obtain ⟨hr5, h⟩ := h
      refine qv_iald dX7_putInitials_41 (by decide) hr5 (by decide) ?_
      obtain ⟨h1, h2⟩ := h
      refine qv_if (t := 79) dX7_putInitials_42 (by decide) (d_ne (hvv _ _) (by decide)) (fun c => ?_) (fun c => ?_)
      · have h := h1 c
        exact h
      · have h := h2 (Decidable.of_not_not c)
        refine qv_g (pc' := 46) (ls' := [some (.ref m), some (.int (iI x1)), some (.int (iI x2)), some (.int (iI x3)), some (.int (iI x4))]) (st' := [.int (iI x3)]) dX7_putInitials_45 (fun _ _ => rfl) ?_
        obtain ⟨h1, h2⟩ := h
        refine qv_if (t := 55) dX7_putInitials_46 (by decide) (d_eq hx3 (by decide)) (fun c => ?_) (fun c => ?_)
        · have h := h1 c
          exact h
        · have h := h2 c
          refine qv_g (pc' := 50) (ls' := [some (.ref m), some (.int (iI x1)), some (.int (iI x2)), some (.int (iI x3)), some (.int (iI x4))]) (st' := [.ref m]) dX7_putInitials_49 (fun _ _ => rfl) ?_
          refine qv_bi dX7_putInitials_50 (by decide) ?_
          exact qv_call dX7_putInitials_52 (fun _ _ => ex_calV rfl (by decide)) rfl (Nat.le_of_ble_eq_true rfl) (Nat.le_of_ble_eq_true rfl) (Nat.le_of_ble_eq_true rfl) (fun _ hm => rcv0 rfl rfl (by decide) hm) rfl rfl rfl h
theorem v118_55 {v : VS} {Q : Rs → VS → Prop} {x1 : Int} {x2 : Int} {l3 : Option Value} {x4 : Int}
    (h : ((0 : Int) ≤ x4 ∧ (x4 : Int) < 128) ∧ ((0 : Int) ≤ v 15 x4 ∧ (v 15 x4 : Int) < 160) ∧ RW g C S m A 111 0 [some (.ref m), some (.int (iI (v 13 (v 15 x4))))] [] v (VK g C S m A 118 73 [some (.ref m), some (.int (iI x1)), some (.int (iI x2)), some (.int (iI 1)), some (.int (iI x4))] [] Q)) (hx1 : (-2147483648 : Int) ≤ x1 ∧ x1 ≤ 2147483647 := by omega) (hx2 : (-2147483648 : Int) ≤ x2 ∧ x2 ≤ 2147483647 := by omega) (hx4 : (-2147483648 : Int) ≤ x4 ∧ x4 ≤ 2147483647 := by omega) :
    RW g C S m A 118 55 [some (.ref m), some (.int (iI x1)), some (.int (iI x2)), l3, some (.int (iI x4))] [] v Q := by
  refine qv_R (fun hvv => ?_)
  refine qv_ic dX7_putInitials_55 ?_
  refine qv_g (pc' := 57) (ls' := [some (.ref m), some (.int (iI x1)), some (.int (iI x2)), some (.int (iI 1)), some (.int (iI x4))]) (st' := []) dX7_putInitials_56 (fun _ _ => rfl) ?_
  refine qv_g (pc' := 58) (ls' := [some (.ref m), some (.int (iI x1)), some (.int (iI x2)), some (.int (iI 1)), some (.int (iI x4))]) (st' := [.ref m]) dX7_putInitials_57 (fun _ _ => rfl) ?_
  refine qv_g (pc' := 59) (ls' := [some (.ref m), some (.int (iI x1)), some (.int (iI x2)), some (.int (iI 1)), some (.int (iI x4))]) (st' := [.ref m, .ref m]) dX7_putInitials_58 (fun _ _ => rfl) ?_
  refine qv_getA dX7_putInitials_59 rfl rfl (by decide) ?_
  refine qv_g (pc' := 63) (ls' := [some (.ref m), some (.int (iI x1)), some (.int (iI x2)), some (.int (iI 1)), some (.int (iI x4))]) (st' := [.ref m, .ref (A 13), .ref m]) dX7_putInitials_62 (fun _ _ => rfl) ?_
  refine qv_getA dX7_putInitials_63 rfl rfl (by decide) ?_
  refine qv_g (pc' := 68) (ls' := [some (.ref m), some (.int (iI x1)), some (.int (iI x2)), some (.int (iI 1)), some (.int (iI x4))]) (st' := [.int (iI x4), .ref (A 15), .ref (A 13), .ref m]) dX7_putInitials_66 (fun _ _ => rfl) ?_
  obtain ⟨hr1, h⟩ := h
  refine qv_iald dX7_putInitials_68 (by decide) hr1 (by decide) ?_
  obtain ⟨hr2, h⟩ := h
  refine qv_iald dX7_putInitials_69 (by decide) hr2 (by decide) ?_
  exact qv_call dX7_putInitials_70 (fun _ _ => ex_calV rfl (by decide)) rfl (Nat.le_of_ble_eq_true rfl) (Nat.le_of_ble_eq_true rfl) (Nat.le_of_ble_eq_true rfl) (fun _ hm => rcv0 rfl rfl (by decide) hm) rfl rfl rfl h
theorem v118_73 {v : VS} {Q : Rs → VS → Prop} {x1 : Int} {x2 : Int} {x3 : Int} {x4 : Int}
    (h : RW g C S m A 111 0 [some (.ref m), some (.int (iI 46))] [] v (VK g C S m A 118 79 [some (.ref m), some (.int (iI x1)), some (.int (iI x2)), some (.int (iI x3)), some (.int (iI x4))] [] Q)) (hx1 : (-2147483648 : Int) ≤ x1 ∧ x1 ≤ 2147483647 := by omega) (hx2 : (-2147483648 : Int) ≤ x2 ∧ x2 ≤ 2147483647 := by omega) (hx3 : (-2147483648 : Int) ≤ x3 ∧ x3 ≤ 2147483647 := by omega) (hx4 : (-2147483648 : Int) ≤ x4 ∧ x4 ≤ 2147483647 := by omega) :
    RW g C S m A 118 73 [some (.ref m), some (.int (iI x1)), some (.int (iI x2)), some (.int (iI x3)), some (.int (iI x4))] [] v Q := by
  refine qv_R (fun hvv => ?_)
  refine qv_g (pc' := 74) (ls' := [some (.ref m), some (.int (iI x1)), some (.int (iI x2)), some (.int (iI x3)), some (.int (iI x4))]) (st' := [.ref m]) dX7_putInitials_73 (fun _ _ => rfl) ?_
  refine qv_bi dX7_putInitials_74 (by decide) ?_
  exact qv_call dX7_putInitials_76 (fun _ _ => ex_calV rfl (by decide)) rfl (Nat.le_of_ble_eq_true rfl) (Nat.le_of_ble_eq_true rfl) (Nat.le_of_ble_eq_true rfl) (fun _ hm => rcv0 rfl rfl (by decide) hm) rfl rfl rfl h
theorem v118_79 {v : VS} {Q : Rs → VS → Prop} {x1 : Int} {x2 : Int} {x3 : Int} {x4 : Int}
    (h : ((-2147483648 : Int) ≤ x4 + 1 ∧ x4 + 1 ≤ 2147483647) ∧ RW g C S m A 118 8 [some (.ref m), some (.int (iI x1)), some (.int (iI x2)), some (.int (iI x3)), some (.int (iI (x4 + 1)))] [] v Q) (hx1 : (-2147483648 : Int) ≤ x1 ∧ x1 ≤ 2147483647 := by omega) (hx2 : (-2147483648 : Int) ≤ x2 ∧ x2 ≤ 2147483647 := by omega) (hx3 : (-2147483648 : Int) ≤ x3 ∧ x3 ≤ 2147483647 := by omega) (hx4 : (-2147483648 : Int) ≤ x4 ∧ x4 ≤ 2147483647 := by omega) :
    RW g C S m A 118 79 [some (.ref m), some (.int (iI x1)), some (.int (iI x2)), some (.int (iI x3)), some (.int (iI x4))] [] v Q := by
  refine qv_R (fun hvv => ?_)
  obtain ⟨hr1, h⟩ := h
  refine qv_inc (ls' := [some (.ref m), some (.int (iI x1)), some (.int (iI x2)), some (.int (iI x3)), some (.int (iI (x4 + 1)))]) dX7_putInitials_79 rfl (Nat.le_of_ble_eq_true rfl) rfl ?_
  refine qv_goto (t := 8) dX7_putInitials_82 (by decide) ?_
  exact h
theorem v119_0 {v : VS} {Q : Rs → VS → Prop} {l1 : Option Value}
    (h : (∀ w1, w1 = uv v 23 0 (v 21 0) → RW g C S m A 119 10 [some (.ref m), some (.int (iI 0))] [] w1 Q))  :
    RW g C S m A 119 0 [some (.ref m), l1] [] v Q := by
  refine qv_R (fun hvv => ?_)
  refine qv_g (pc' := 1) (ls' := [some (.ref m), l1]) (st' := [.ref m]) dX7_turn_0 (fun _ _ => rfl) ?_
  refine qv_g (pc' := 2) (ls' := [some (.ref m), l1]) (st' := [.ref m, .ref m]) dX7_turn_1 (fun _ _ => rfl) ?_
  refine qv_getI dX7_turn_2 rfl rfl rfl ?_
  refine qv_putI dX7_turn_5 rfl rfl (Or.inl rfl) rfl (Or.inl rfl) (hvv _ _) ?_
  generalize ew1 : uv v 23 0 (v 21 0) = w1
  replace h := h _ ew1.symm
  refine qv_R (fun hvw1 => ?_)
  refine qv_ic dX7_turn_8 ?_
  refine qv_g (pc' := 10) (ls' := [some (.ref m), some (.int (iI 0))]) (st' := []) dX7_turn_9 (fun _ _ => rfl) ?_
  exact h
theorem v119_10 {v : VS} {Q : Rs → VS → Prop} {x1 : Int}
    (h : (v 21 0 ≤ x1 → (∀ w1, w1 = uv v 21 0 0 → Q (Sum.inl none) w1)) ∧ (x1 < v 21 0 → ((0 : Int) ≤ x1 ∧ (x1 : Int) < 1000) ∧ ((0 : Int) ≤ x1 ∧ (x1 : Int) < 1000) ∧ (∀ w4, w4 = uv v 22 x1 (v 20 x1) → ((-2147483648 : Int) ≤ x1 + 1 ∧ x1 + 1 ≤ 2147483647) ∧ RW g C S m A 119 10 [some (.ref m), some (.int (iI (x1 + 1)))] [] w4 Q))) (hx1 : (-2147483648 : Int) ≤ x1 ∧ x1 ≤ 2147483647 := by omega) :
    RW g C S m A 119 10 [some (.ref m), some (.int (iI x1))] [] v Q := by
  refine qv_R (fun hvv => ?_)
  refine qv_g (pc' := 11) (ls' := [some (.ref m), some (.int (iI x1))]) (st' := [.int (iI x1)]) dX7_turn_10 (fun _ _ => rfl) ?_
  refine qv_g (pc' := 12) (ls' := [some (.ref m), some (.int (iI x1))]) (st' := [.ref m, .int (iI x1)]) dX7_turn_11 (fun _ _ => rfl) ?_
  refine qv_getI dX7_turn_12 rfl rfl rfl ?_
  obtain ⟨h1, h2⟩ := h
  refine qv_icmp (t := 36) dX7_turn_15 (by decide) (d_ge hx1 (hvv _ _)) (fun c => ?_) (fun c => ?_)
  · have h := h1 c
    refine qv_g (pc' := 37) (ls' := [some (.ref m), some (.int (iI x1))]) (st' := [.ref m]) dX7_turn_36 (fun _ _ => rfl) ?_
    refine qv_ic dX7_turn_37 ?_
    refine qv_putI dX7_turn_38 rfl rfl (Or.inl rfl) rfl (Or.inl rfl) (by decide) ?_
    generalize ew1 : uv v 21 0 0 = w1
    replace h := h _ ew1.symm
    refine qv_R (fun hvw1 => ?_)
    exact qv_vret dX7_turn_41 rfl h
  · have h := h2 (Int.not_le.mp c)
    refine qv_g (pc' := 19) (ls' := [some (.ref m), some (.int (iI x1))]) (st' := [.ref m]) dX7_turn_18 (fun _ _ => rfl) ?_
    refine qv_getA dX7_turn_19 rfl rfl (by decide) ?_
    refine qv_g (pc' := 23) (ls' := [some (.ref m), some (.int (iI x1))]) (st' := [.int (iI x1), .ref (A 22)]) dX7_turn_22 (fun _ _ => rfl) ?_
    refine qv_g (pc' := 24) (ls' := [some (.ref m), some (.int (iI x1))]) (st' := [.ref m, .int (iI x1), .ref (A 22)]) dX7_turn_23 (fun _ _ => rfl) ?_
    refine qv_getA dX7_turn_24 rfl rfl (by decide) ?_
    refine qv_g (pc' := 28) (ls' := [some (.ref m), some (.int (iI x1))]) (st' := [.int (iI x1), .ref (A 20), .int (iI x1), .ref (A 22)]) dX7_turn_27 (fun _ _ => rfl) ?_
    obtain ⟨hr2, h⟩ := h
    refine qv_iald dX7_turn_28 (by decide) hr2 (by decide) ?_
    obtain ⟨hr3, h⟩ := h
    refine qv_iast dX7_turn_29 (by decide) hr3 (by decide) (hvv _ _) ?_
    generalize ew4 : uv v 22 x1 (v 20 x1) = w4
    replace h := h _ ew4.symm
    refine qv_R (fun hvw4 => ?_)
    obtain ⟨hr5, h⟩ := h
    refine qv_inc (ls' := [some (.ref m), some (.int (iI (x1 + 1)))]) dX7_turn_30 rfl (Nat.le_of_ble_eq_true rfl) rfl ?_
    refine qv_goto (t := 10) dX7_turn_33 (by decide) ?_
    exact h
end Blk
