section Blk
variable {g : Nat → Nat} {C S m : Nat} {A : Nat → Nat}
theorem v92_0 {v : VS} {Q : Rs → VS → Prop} 
    (h : Q (Sum.inl (some (.int (iI (v 0 0))))) v)  :
    RW g C S m A 92 0 [some (.ref m)] [] v Q := by
  refine qv_R (fun hvv => ?_)
  refine qv_g (pc' := 1) (ls' := [some (.ref m)]) (st' := [.ref m]) dX7_thrown_0 (fun _ _ => rfl) ?_
  refine qv_getI dX7_thrown_1 rfl rfl rfl ?_
  exact qv_ret dX7_thrown_4 rfl h
theorem v93_0 {v : VS} {Q : Rs → VS → Prop} {x1 : Int}
    (h : (x1 < 0 → RW g C S m A 93 16 [some (.ref m), some (.int (iI x1))] [] v Q) ∧ (0 ≤ x1 → (v 1 0 ≤ x1 → RW g C S m A 93 16 [some (.ref m), some (.int (iI x1))] [] v Q) ∧ (x1 < v 1 0 → RW g C S m A 93 17 [some (.ref m), some (.int (iI x1))] [.int (iI 1)] v Q))) (hx1 : (-2147483648 : Int) ≤ x1 ∧ x1 ≤ 2147483647 := by omega) :
    RW g C S m A 93 0 [some (.ref m), some (.int (iI x1))] [] v Q := by
  refine qv_R (fun hvv => ?_)
  refine qv_g (pc' := 1) (ls' := [some (.ref m), some (.int (iI x1))]) (st' := [.int (iI x1)]) dX7_isEntry_0 (fun _ _ => rfl) ?_
  obtain ⟨h1, h2⟩ := h
  refine qv_if (t := 16) dX7_isEntry_1 (by decide) (d_lt hx1 (by decide)) (fun c => ?_) (fun c => ?_)
  · have h := h1 c
    exact h
  · have h := h2 (Int.not_lt.mp c)
    refine qv_g (pc' := 5) (ls' := [some (.ref m), some (.int (iI x1))]) (st' := [.int (iI x1)]) dX7_isEntry_4 (fun _ _ => rfl) ?_
    refine qv_g (pc' := 6) (ls' := [some (.ref m), some (.int (iI x1))]) (st' := [.ref m, .int (iI x1)]) dX7_isEntry_5 (fun _ _ => rfl) ?_
    refine qv_getI dX7_isEntry_6 rfl rfl rfl ?_
    obtain ⟨h1, h2⟩ := h
    refine qv_icmp (t := 16) dX7_isEntry_9 (by decide) (d_ge hx1 (hvv _ _)) (fun c => ?_) (fun c => ?_)
    · have h := h1 c
      exact h
    · have h := h2 (Int.not_le.mp c)
      refine qv_ic dX7_isEntry_12 ?_
      refine qv_goto (t := 17) dX7_isEntry_13 (by decide) ?_
      exact h
theorem v93_16 {v : VS} {Q : Rs → VS → Prop} {l0 : Option Value} {l1 : Option Value}
    (h : RW g C S m A 93 17 [l0, l1] [.int (iI 0)] v Q)  :
    RW g C S m A 93 16 [l0, l1] [] v Q := by
  refine qv_R (fun hvv => ?_)
  refine qv_ic dX7_isEntry_16 ?_
  exact h
theorem v93_17 {v : VS} {Q : Rs → VS → Prop} {l0 : Option Value} {l1 : Option Value} {u0 : Int}
    (h : (u0 = 0 ∨ u0 = 1) ∧ Q (Sum.inl (some (.int (iI u0)))) v) (hu0 : (-2147483648 : Int) ≤ u0 ∧ u0 ≤ 2147483647 := by omega) :
    RW g C S m A 93 17 [l0, l1] [.int (iI u0)] v Q := by
  refine qv_R (fun hvv => ?_)
  obtain ⟨hn, h⟩ := h
  exact qv_ret dX7_isEntry_17 (by rcases hn with q | q <;> rw [q] <;> rfl) h
theorem v94_0 {v : VS} {Q : Rs → VS → Prop} {x1 : Int}
    (h : (¬ v 1 0 = 24 → RW g C S m A 94 15 [some (.ref m), some (.int (iI x1))] [.int (iI 0), .ref m] v Q) ∧ (v 1 0 = 24 → RW g C S m A 94 15 [some (.ref m), some (.int (iI x1))] [.int (iI 1), .ref m] v Q)) (hx1 : (-2147483648 : Int) ≤ x1 ∧ x1 ≤ 2147483647 := by omega) :
    RW g C S m A 94 0 [some (.ref m), some (.int (iI x1))] [] v Q := by
  refine qv_R (fun hvv => ?_)
  refine qv_g (pc' := 1) (ls' := [some (.ref m), some (.int (iI x1))]) (st' := [.ref m]) dX7_entry_0 (fun _ _ => rfl) ?_
  refine qv_g (pc' := 2) (ls' := [some (.ref m), some (.int (iI x1))]) (st' := [.ref m, .ref m]) dX7_entry_1 (fun _ _ => rfl) ?_
  refine qv_getI dX7_entry_2 rfl rfl rfl ?_
  refine qv_bi dX7_entry_5 (by decide) ?_
  obtain ⟨h1, h2⟩ := h
  refine qv_icmp (t := 14) dX7_entry_7 (by decide) (d_ne (hvv _ _) (by decide)) (fun c => ?_) (fun c => ?_)
  · have h := h1 c
    refine qv_ic dX7_entry_14 ?_
    exact h
  · have h := h2 (Decidable.of_not_not c)
    refine qv_ic dX7_entry_10 ?_
    refine qv_goto (t := 15) dX7_entry_11 (by decide) ?_
    exact h
theorem v94_15 {v : VS} {Q : Rs → VS → Prop} {x1 : Int} {u0 : Int}
    (h : (∀ w1, w1 = uv v 0 0 u0 → (w1 0 0 ≤ 0 → (x1 < 0 → RW g C S m A 94 44 [some (.ref m), some (.int (iI x1))] [.int (iI (w1 1 0)), .ref (A 2)] w1 Q) ∧ (0 ≤ x1 → (x1 ≤ 3 → RW g C S m A 94 49 [some (.ref m), some (.int (iI x1))] [.int (iI x1), .int (iI (w1 1 0)), .ref (A 2)] w1 Q) ∧ (3 < x1 → RW g C S m A 94 44 [some (.ref m), some (.int (iI x1))] [.int (iI (w1 1 0)), .ref (A 2)] w1 Q))) ∧ (0 < w1 0 0 → Q (Sum.inl (some (.int (iI 0)))) w1))) (hx1 : (-2147483648 : Int) ≤ x1 ∧ x1 ≤ 2147483647 := by omega) (hu0 : (-2147483648 : Int) ≤ u0 ∧ u0 ≤ 2147483647 := by omega) :
    RW g C S m A 94 15 [some (.ref m), some (.int (iI x1))] [.int (iI u0), .ref m] v Q := by
  refine qv_R (fun hvv => ?_)
  refine qv_putI dX7_entry_15 rfl rfl (Or.inl rfl) rfl (Or.inl rfl) hu0 ?_
  generalize ew1 : uv v 0 0 u0 = w1
  replace h := h _ ew1.symm
  refine qv_R (fun hvw1 => ?_)
  refine qv_g (pc' := 19) (ls' := [some (.ref m), some (.int (iI x1))]) (st' := [.ref m]) dX7_entry_18 (fun _ _ => rfl) ?_
  refine qv_getI dX7_entry_19 rfl rfl rfl ?_
  obtain ⟨h1, h2⟩ := h
  refine qv_if (t := 27) dX7_entry_22 (by decide) (d_le (hvw1 _ _) (by decide)) (fun c => ?_) (fun c => ?_)
  · have h := h1 c
    refine qv_g (pc' := 28) (ls' := [some (.ref m), some (.int (iI x1))]) (st' := [.ref m]) dX7_entry_27 (fun _ _ => rfl) ?_
    refine qv_getA dX7_entry_28 rfl rfl (by decide) ?_
    refine qv_g (pc' := 32) (ls' := [some (.ref m), some (.int (iI x1))]) (st' := [.ref m, .ref (A 2)]) dX7_entry_31 (fun _ _ => rfl) ?_
    refine qv_getI dX7_entry_32 rfl rfl rfl ?_
    refine qv_g (pc' := 36) (ls' := [some (.ref m), some (.int (iI x1))]) (st' := [.int (iI x1), .int (iI (w1 1 0)), .ref (A 2)]) dX7_entry_35 (fun _ _ => rfl) ?_
    obtain ⟨h1, h2⟩ := h
    refine qv_if (t := 44) dX7_entry_36 (by decide) (d_lt hx1 (by decide)) (fun c => ?_) (fun c => ?_)
    · have h := h1 c
      exact h
    · have h := h2 (Int.not_lt.mp c)
      refine qv_g (pc' := 40) (ls' := [some (.ref m), some (.int (iI x1))]) (st' := [.int (iI x1), .int (iI (w1 1 0)), .ref (A 2)]) dX7_entry_39 (fun _ _ => rfl) ?_
      refine qv_ic dX7_entry_40 ?_
      obtain ⟨h1, h2⟩ := h
      refine qv_icmp (t := 48) dX7_entry_41 (by decide) (d_le hx1 (by decide)) (fun c => ?_) (fun c => ?_)
      · have h := h1 c
        refine qv_g (pc' := 49) (ls' := [some (.ref m), some (.int (iI x1))]) (st' := [.int (iI x1), .int (iI (w1 1 0)), .ref (A 2)]) dX7_entry_48 (fun _ _ => rfl) ?_
        exact h
      · have h := h2 (Int.not_le.mp c)
        exact h
  · have h := h2 (Int.not_le.mp c)
    refine qv_ic dX7_entry_25 ?_
    exact qv_ret dX7_entry_26 rfl h
theorem v94_44 {v : VS} {Q : Rs → VS → Prop} {l1 : Option Value} {u0 : Int}
    (h : RW g C S m A 94 49 [some (.ref m), l1] [.int (iI 4), .int (iI u0), .ref (A 2)] v Q) (hu0 : (-2147483648 : Int) ≤ u0 ∧ u0 ≤ 2147483647 := by omega) :
    RW g C S m A 94 44 [some (.ref m), l1] [.int (iI u0), .ref (A 2)] v Q := by
  refine qv_R (fun hvv => ?_)
  refine qv_ic dX7_entry_44 ?_
  refine qv_goto (t := 49) dX7_entry_45 (by decide) ?_
  exact h
theorem v94_49 {v : VS} {Q : Rs → VS → Prop} {l1 : Option Value} {u0 : Int} {u1 : Int}
    (h : ((0 : Int) ≤ u1 ∧ (u1 : Int) < 24) ∧ (∀ w2, w2 = uv v 2 u1 u0 → ((0 : Int) ≤ w2 1 0 ∧ (w2 1 0 : Int) < 24) ∧ (∀ w4, w4 = uv w2 7 (w2 1 0) (-1) → ((-2147483648 : Int) ≤ (w4 1 0) + 1 ∧ (w4 1 0) + 1 ≤ 2147483647) ∧ (∀ w6, w6 = uv w4 1 0 ((w4 1 0) + 1) → ((-2147483648 : Int) ≤ (w6 1 0) - 1 ∧ (w6 1 0) - 1 ≤ 2147483647) ∧ Q (Sum.inl (some (.int (iI ((w6 1 0) - 1))))) w6)))) (hu0 : (-2147483648 : Int) ≤ u0 ∧ u0 ≤ 2147483647 := by omega) (hu1 : (-2147483648 : Int) ≤ u1 ∧ u1 ≤ 2147483647 := by omega) :
    RW g C S m A 94 49 [some (.ref m), l1] [.int (iI u0), .int (iI u1), .ref (A 2)] v Q := by
  refine qv_R (fun hvv => ?_)
  obtain ⟨hr1, h⟩ := h
  refine qv_iast dX7_entry_49 (by decide) hr1 (by decide) hu0 ?_
  generalize ew2 : uv v 2 u1 u0 = w2
  replace h := h _ ew2.symm
  refine qv_R (fun hvw2 => ?_)
  refine qv_g (pc' := 51) (ls' := [some (.ref m), l1]) (st' := [.ref m]) dX7_entry_50 (fun _ _ => rfl) ?_
  refine qv_getA dX7_entry_51 rfl rfl (by decide) ?_
  refine qv_g (pc' := 55) (ls' := [some (.ref m), l1]) (st' := [.ref m, .ref (A 7)]) dX7_entry_54 (fun _ _ => rfl) ?_
  refine qv_getI dX7_entry_55 rfl rfl rfl ?_
  refine qv_ic dX7_entry_58 ?_
  obtain ⟨hr3, h⟩ := h
  refine qv_iast dX7_entry_59 (by decide) hr3 (by decide) (by decide) ?_
  generalize ew4 : uv w2 7 (w2 1 0) (-1) = w4
  replace h := h _ ew4.symm
  refine qv_R (fun hvw4 => ?_)
  refine qv_g (pc' := 61) (ls' := [some (.ref m), l1]) (st' := [.ref m]) dX7_entry_60 (fun _ _ => rfl) ?_
  refine qv_g (pc' := 62) (ls' := [some (.ref m), l1]) (st' := [.ref m, .ref m]) dX7_entry_61 (fun _ _ => rfl) ?_
  refine qv_getI dX7_entry_62 rfl rfl rfl ?_
  refine qv_ic dX7_entry_65 ?_
  obtain ⟨hr5, h⟩ := h
  refine qv_add dX7_entry_66 ?_
  refine qv_putI dX7_entry_67 rfl rfl (Or.inl rfl) rfl (Or.inl rfl) hr5 ?_
  generalize ew6 : uv w4 1 0 ((w4 1 0) + 1) = w6
  replace h := h _ ew6.symm
  refine qv_R (fun hvw6 => ?_)
  refine qv_g (pc' := 71) (ls' := [some (.ref m), l1]) (st' := [.ref m]) dX7_entry_70 (fun _ _ => rfl) ?_
  refine qv_getI dX7_entry_71 rfl rfl rfl ?_
  refine qv_ic dX7_entry_74 ?_
  obtain ⟨hr7, h⟩ := h
  refine qv_sub dX7_entry_75 ?_
  exact qv_ret dX7_entry_76 rfl h
theorem v95_0 {v : VS} {Q : Rs → VS → Prop} {x0 : Int}
    (h : (x0 < 32 → RW g C S m A 95 12 [some (.int (iI x0))] [] v Q) ∧ (32 ≤ x0 → (x0 ≤ 126 → RW g C S m A 95 33 [some (.int (iI x0))] [] v Q) ∧ (126 < x0 → RW g C S m A 95 12 [some (.int (iI x0))] [] v Q))) (hx0 : (-2147483648 : Int) ≤ x0 ∧ x0 ≤ 2147483647 := by omega) :
    RW g C S m A 95 0 [some (.int (iI x0))] [] v Q := by
  refine qv_R (fun hvv => ?_)
  refine qv_g (pc' := 1) (ls' := [some (.int (iI x0))]) (st' := [.int (iI x0)]) dX7_isCharacter_0 (fun _ _ => rfl) ?_
  refine qv_bi dX7_isCharacter_1 (by decide) ?_
  obtain ⟨h1, h2⟩ := h
  refine qv_icmp (t := 12) dX7_isCharacter_3 (by decide) (d_lt hx0 (by decide)) (fun c => ?_) (fun c => ?_)
  · have h := h1 c
    exact h
  · have h := h2 (Int.not_lt.mp c)
    refine qv_g (pc' := 7) (ls' := [some (.int (iI x0))]) (st' := [.int (iI x0)]) dX7_isCharacter_6 (fun _ _ => rfl) ?_
    refine qv_bi dX7_isCharacter_7 (by decide) ?_
    obtain ⟨h1, h2⟩ := h
    refine qv_icmp (t := 33) dX7_isCharacter_9 (by decide) (d_le hx0 (by decide)) (fun c => ?_) (fun c => ?_)
    · have h := h1 c
      exact h
    · have h := h2 (Int.not_le.mp c)
      exact h
theorem v95_12 {v : VS} {Q : Rs → VS → Prop} {x0 : Int}
    (h : (x0 < 192 → RW g C S m A 95 37 [some (.int (iI x0))] [] v Q) ∧ (192 ≤ x0 → (x0 = 215 → RW g C S m A 95 37 [some (.int (iI x0))] [] v Q) ∧ (¬ x0 = 215 → (x0 = 247 → RW g C S m A 95 37 [some (.int (iI x0))] [] v Q) ∧ (¬ x0 = 247 → RW g C S m A 95 33 [some (.int (iI x0))] [] v Q)))) (hx0 : (-2147483648 : Int) ≤ x0 ∧ x0 ≤ 2147483647 := by omega) :
    RW g C S m A 95 12 [some (.int (iI x0))] [] v Q := by
  refine qv_R (fun hvv => ?_)
  refine qv_g (pc' := 13) (ls' := [some (.int (iI x0))]) (st' := [.int (iI x0)]) dX7_isCharacter_12 (fun _ _ => rfl) ?_
  refine qv_si dX7_isCharacter_13 (by decide) ?_
  obtain ⟨h1, h2⟩ := h
  refine qv_icmp (t := 37) dX7_isCharacter_16 (by decide) (d_lt hx0 (by decide)) (fun c => ?_) (fun c => ?_)
  · have h := h1 c
    exact h
  · have h := h2 (Int.not_lt.mp c)
    refine qv_g (pc' := 20) (ls' := [some (.int (iI x0))]) (st' := [.int (iI x0)]) dX7_isCharacter_19 (fun _ _ => rfl) ?_
    refine qv_si dX7_isCharacter_20 (by decide) ?_
    obtain ⟨h1, h2⟩ := h
    refine qv_icmp (t := 37) dX7_isCharacter_23 (by decide) (d_eq hx0 (by decide)) (fun c => ?_) (fun c => ?_)
    · have h := h1 c
      exact h
    · have h := h2 c
      refine qv_g (pc' := 27) (ls' := [some (.int (iI x0))]) (st' := [.int (iI x0)]) dX7_isCharacter_26 (fun _ _ => rfl) ?_
      refine qv_si dX7_isCharacter_27 (by decide) ?_
      obtain ⟨h1, h2⟩ := h
      refine qv_icmp (t := 37) dX7_isCharacter_30 (by decide) (d_eq hx0 (by decide)) (fun c => ?_) (fun c => ?_)
      · have h := h1 c
        exact h
      · have h := h2 c
        exact h
theorem v95_33 {v : VS} {Q : Rs → VS → Prop} {l0 : Option Value}
    (h : RW g C S m A 95 38 [l0] [.int (iI 1)] v Q)  :
    RW g C S m A 95 33 [l0] [] v Q := by
  refine qv_R (fun hvv => ?_)
  refine qv_ic dX7_isCharacter_33 ?_
  refine qv_goto (t := 38) dX7_isCharacter_34 (by decide) ?_
  exact h
theorem v95_37 {v : VS} {Q : Rs → VS → Prop} {l0 : Option Value}
    (h : RW g C S m A 95 38 [l0] [.int (iI 0)] v Q)  :
    RW g C S m A 95 37 [l0] [] v Q := by
  refine qv_R (fun hvv => ?_)
  refine qv_ic dX7_isCharacter_37 ?_
  exact h
theorem v95_38 {v : VS} {Q : Rs → VS → Prop} {l0 : Option Value} {u0 : Int}
    (h : (u0 = 0 ∨ u0 = 1) ∧ Q (Sum.inl (some (.int (iI u0)))) v) (hu0 : (-2147483648 : Int) ≤ u0 ∧ u0 ≤ 2147483647 := by omega) :
    RW g C S m A 95 38 [l0] [.int (iI u0)] v Q := by
  refine qv_R (fun hvv => ?_)
  obtain ⟨hn, h⟩ := h
  exact qv_ret dX7_isCharacter_38 (by rcases hn with q | q <;> rw [q] <;> rfl) h
theorem v96_0 {v : VS} {Q : Rs → VS → Prop} {x0 : Int} {l1 : Option Value} {l2 : Option Value} {l3 : Option Value}
    (h : RW g C S m A 96 4 [some (.int (iI x0)), some (.int (iI 0)), some (.int (iI 0)), l3] [] v Q) (hx0 : (-2147483648 : Int) ≤ x0 ∧ x0 ≤ 2147483647 := by omega) :
    RW g C S m A 96 0 [some (.int (iI x0)), l1, l2, l3] [] v Q := by
  refine qv_R (fun hvv => ?_)
  refine qv_ic dX7_countOf_0 ?_
  refine qv_g (pc' := 2) (ls' := [some (.int (iI x0)), some (.int (iI 0)), l2, l3]) (st' := []) dX7_countOf_1 (fun _ _ => rfl) ?_
  refine qv_ic dX7_countOf_2 ?_
  refine qv_g (pc' := 4) (ls' := [some (.int (iI x0)), some (.int (iI 0)), some (.int (iI 0)), l3]) (st' := []) dX7_countOf_3 (fun _ _ => rfl) ?_
  exact h
theorem v96_4 {v : VS} {Q : Rs → VS → Prop} {x0 : Int} {x1 : Int} {x2 : Int} {l3 : Option Value}
    (h : (4 ≤ x2 → RW g C S m A 96 50 [some (.int (iI x0)), some (.int (iI x1)), some (.int (iI x2)), l3] [] v Q) ∧ (x2 < 4 → (x1 = (-1) → RW g C S m A 96 50 [some (.int (iI x0)), some (.int (iI x1)), some (.int (iI x2)), l3] [] v Q) ∧ (¬ x1 = (-1) → ((-2147483648 : Int) ≤ 8 * x2 ∧ 8 * x2 ≤ 2147483647) ∧ (8 * x2 = 0 ∨ 8 * x2 = 8 ∨ 8 * x2 = 16 ∨ 8 * x2 = 24) ∧ ((x0 / 2 ^ (8 * x2).toNat) % 256 = 0 → RW g C S m A 96 44 [some (.int (iI x0)), some (.int (iI x1)), some (.int (iI x2)), some (.int (iI ((x0 / 2 ^ (8 * x2).toNat) % 256)))] [] v Q) ∧ (¬ (x0 / 2 ^ (8 * x2).toNat) % 256 = 0 → RW g C S m A 95 0 [some (.int (iI ((x0 / 2 ^ (8 * x2).toNat) % 256)))] [] v (VK g C S m A 96 33 [some (.int (iI x0)), some (.int (iI x1)), some (.int (iI x2)), some (.int (iI ((x0 / 2 ^ (8 * x2).toNat) % 256)))] [] Q))))) (hx0 : (-2147483648 : Int) ≤ x0 ∧ x0 ≤ 2147483647 := by omega) (hx1 : (-2147483648 : Int) ≤ x1 ∧ x1 ≤ 2147483647 := by omega) (hx2 : (-2147483648 : Int) ≤ x2 ∧ x2 ≤ 2147483647 := by omega) :
    RW g C S m A 96 4 [some (.int (iI x0)), some (.int (iI x1)), some (.int (iI x2)), l3] [] v Q := by
  refine qv_R (fun hvv => ?_)
  refine qv_g (pc' := 5) (ls' := [some (.int (iI x0)), some (.int (iI x1)), some (.int (iI x2)), l3]) (st' := [.int (iI x2)]) dX7_countOf_4 (fun _ _ => rfl) ?_
  refine qv_ic dX7_countOf_5 ?_
  obtain ⟨h1, h2⟩ := h
  refine qv_icmp (t := 50) dX7_countOf_6 (by decide) (d_ge hx2 (by decide)) (fun c => ?_) (fun c => ?_)
  · have h := h1 c
    exact h
  · have h := h2 (Int.not_le.mp c)
    refine qv_g (pc' := 10) (ls' := [some (.int (iI x0)), some (.int (iI x1)), some (.int (iI x2)), l3]) (st' := [.int (iI x1)]) dX7_countOf_9 (fun _ _ => rfl) ?_
    refine qv_ic dX7_countOf_10 ?_
    obtain ⟨h1, h2⟩ := h
    refine qv_icmp (t := 50) dX7_countOf_11 (by decide) (d_eq hx1 (by decide)) (fun c => ?_) (fun c => ?_)
    · have h := h1 c
      exact h
    · have h := h2 c
      refine qv_g (pc' := 15) (ls' := [some (.int (iI x0)), some (.int (iI x1)), some (.int (iI x2)), l3]) (st' := [.int (iI x0)]) dX7_countOf_14 (fun _ _ => rfl) ?_
      refine qv_bi dX7_countOf_15 (by decide) ?_
      refine qv_g (pc' := 18) (ls' := [some (.int (iI x0)), some (.int (iI x1)), some (.int (iI x2)), l3]) (st' := [.int (iI x2), .int (iI 8), .int (iI x0)]) dX7_countOf_17 (fun _ _ => rfl) ?_
      obtain ⟨hr1, h⟩ := h
      refine qv_mul dX7_countOf_18 ?_
      obtain ⟨hr2, h⟩ := h
      refine qv_shr dX7_countOf_19 hx0 hr2 ?_
      refine qv_si dX7_countOf_20 (by decide) ?_
      refine qv_and dX7_countOf_23 (iI_and 8 (by decide) _) ?_
      refine qv_g (pc' := 25) (ls' := [some (.int (iI x0)), some (.int (iI x1)), some (.int (iI x2)), some (.int (iI ((x0 / 2 ^ (8 * x2).toNat) % 256)))]) (st' := []) dX7_countOf_24 (fun _ _ => rfl) ?_
      refine qv_g (pc' := 26) (ls' := [some (.int (iI x0)), some (.int (iI x1)), some (.int (iI x2)), some (.int (iI ((x0 / 2 ^ (8 * x2).toNat) % 256)))]) (st' := [.int (iI ((x0 / 2 ^ (8 * x2).toNat) % 256))]) dX7_countOf_25 (fun _ _ => rfl) ?_
      obtain ⟨h1, h2⟩ := h
      refine qv_if (t := 44) dX7_countOf_26 (by decide) (d_eq (by omega) (by decide)) (fun c => ?_) (fun c => ?_)
      · have h := h1 c
        exact h
      · have h := h2 c
        refine qv_g (pc' := 30) (ls' := [some (.int (iI x0)), some (.int (iI x1)), some (.int (iI x2)), some (.int (iI ((x0 / 2 ^ (8 * x2).toNat) % 256)))]) (st' := [.int (iI ((x0 / 2 ^ (8 * x2).toNat) % 256))]) dX7_countOf_29 (fun _ _ => rfl) ?_
        exact qv_call dX7_countOf_30 (fun _ _ => ex_calS rfl (by decide)) rfl (Nat.le_of_ble_eq_true rfl) (Nat.le_of_ble_eq_true rfl) (Nat.le_of_ble_eq_true rfl) (fun _ _ => rfl) rfl rfl rfl h
theorem v96_33 {v : VS} {Q : Rs → VS → Prop} {x0 : Int} {x1 : Int} {x2 : Int} {l3 : Option Value} {u0 : Int}
    (h : (u0 = 0 → RW g C S m A 96 43 [some (.int (iI x0)), some (.int (iI x1)), some (.int (iI x2)), l3] [.int (iI (-1))] v Q) ∧ (¬ u0 = 0 → ((-2147483648 : Int) ≤ x1 + 1 ∧ x1 + 1 ≤ 2147483647) ∧ RW g C S m A 96 43 [some (.int (iI x0)), some (.int (iI x1)), some (.int (iI x2)), l3] [.int (iI (x1 + 1))] v Q)) (hx0 : (-2147483648 : Int) ≤ x0 ∧ x0 ≤ 2147483647 := by omega) (hx1 : (-2147483648 : Int) ≤ x1 ∧ x1 ≤ 2147483647 := by omega) (hx2 : (-2147483648 : Int) ≤ x2 ∧ x2 ≤ 2147483647 := by omega) (hu0 : (-2147483648 : Int) ≤ u0 ∧ u0 ≤ 2147483647 := by omega) :
    RW g C S m A 96 33 [some (.int (iI x0)), some (.int (iI x1)), some (.int (iI x2)), l3] [.int (iI u0)] v Q := by
  refine qv_R (fun hvv => ?_)
  obtain ⟨h1, h2⟩ := h
  refine qv_if (t := 42) dX7_countOf_33 (by decide) (d_eq hu0 (by decide)) (fun c => ?_) (fun c => ?_)
  · have h := h1 c
    refine qv_ic dX7_countOf_42 ?_
    exact h
  · have h := h2 c
    refine qv_g (pc' := 37) (ls' := [some (.int (iI x0)), some (.int (iI x1)), some (.int (iI x2)), l3]) (st' := [.int (iI x1)]) dX7_countOf_36 (fun _ _ => rfl) ?_
    refine qv_ic dX7_countOf_37 ?_
    obtain ⟨hr1, h⟩ := h
    refine qv_add dX7_countOf_38 ?_
    refine qv_goto (t := 43) dX7_countOf_39 (by decide) ?_
    exact h
theorem v96_43 {v : VS} {Q : Rs → VS → Prop} {x0 : Int} {l1 : Option Value} {x2 : Int} {l3 : Option Value} {u0 : Int}
    (h : RW g C S m A 96 44 [some (.int (iI x0)), some (.int (iI u0)), some (.int (iI x2)), l3] [] v Q) (hx0 : (-2147483648 : Int) ≤ x0 ∧ x0 ≤ 2147483647 := by omega) (hx2 : (-2147483648 : Int) ≤ x2 ∧ x2 ≤ 2147483647 := by omega) (hu0 : (-2147483648 : Int) ≤ u0 ∧ u0 ≤ 2147483647 := by omega) :
    RW g C S m A 96 43 [some (.int (iI x0)), l1, some (.int (iI x2)), l3] [.int (iI u0)] v Q := by
  refine qv_R (fun hvv => ?_)
  refine qv_g (pc' := 44) (ls' := [some (.int (iI x0)), some (.int (iI u0)), some (.int (iI x2)), l3]) (st' := []) dX7_countOf_43 (fun _ _ => rfl) ?_
  exact h
theorem v96_44 {v : VS} {Q : Rs → VS → Prop} {x0 : Int} {x1 : Int} {x2 : Int} {l3 : Option Value}
    (h : ((-2147483648 : Int) ≤ x2 + 1 ∧ x2 + 1 ≤ 2147483647) ∧ RW g C S m A 96 4 [some (.int (iI x0)), some (.int (iI x1)), some (.int (iI (x2 + 1))), l3] [] v Q) (hx0 : (-2147483648 : Int) ≤ x0 ∧ x0 ≤ 2147483647 := by omega) (hx1 : (-2147483648 : Int) ≤ x1 ∧ x1 ≤ 2147483647 := by omega) (hx2 : (-2147483648 : Int) ≤ x2 ∧ x2 ≤ 2147483647 := by omega) :
    RW g C S m A 96 44 [some (.int (iI x0)), some (.int (iI x1)), some (.int (iI x2)), l3] [] v Q := by
  refine qv_R (fun hvv => ?_)
  obtain ⟨hr1, h⟩ := h
  refine qv_inc (ls' := [some (.int (iI x0)), some (.int (iI x1)), some (.int (iI (x2 + 1))), l3]) dX7_countOf_44 rfl (Nat.le_of_ble_eq_true rfl) rfl ?_
  refine qv_goto (t := 4) dX7_countOf_47 (by decide) ?_
  exact h
theorem v96_50 {v : VS} {Q : Rs → VS → Prop} {l0 : Option Value} {x1 : Int} {l2 : Option Value} {l3 : Option Value}
    (h : Q (Sum.inl (some (.int (iI x1)))) v) (hx1 : (-2147483648 : Int) ≤ x1 ∧ x1 ≤ 2147483647 := by omega) :
    RW g C S m A 96 50 [l0, some (.int (iI x1)), l2, l3] [] v Q := by
  refine qv_R (fun hvv => ?_)
  refine qv_g (pc' := 51) (ls' := [l0, some (.int (iI x1)), l2, l3]) (st' := [.int (iI x1)]) dX7_countOf_50 (fun _ _ => rfl) ?_
  exact qv_ret dX7_countOf_51 rfl h
theorem v97_0 {v : VS} {Q : Rs → VS → Prop} {j0 : Nat} {x1 : Int} {x2 : Int} {l3 : Option Value} {l4 : Option Value} {l5 : Option Value}
    (h : RW g C S m A 97 5 [some (.ref (A j0)), some (.int (iI x1)), some (.int (iI x2)), some (.int (iI 0)), some (.int (iI 0)), l5] [] v Q) (hj0 : 0 < rl j0 := by decide) (hl0 : rl j0 ≤ 100000 := by decide) (hx1 : (-2147483648 : Int) ≤ x1 ∧ x1 ≤ 2147483647 := by omega) (hx2 : (-2147483648 : Int) ≤ x2 ∧ x2 ≤ 2147483647 := by omega) :
    RW g C S m A 97 0 [some (.ref (A j0)), some (.int (iI x1)), some (.int (iI x2)), l3, l4, l5] [] v Q := by
  refine qv_R (fun hvv => ?_)
  refine qv_ic dX7_addTo_0 ?_
  refine qv_g (pc' := 2) (ls' := [some (.ref (A j0)), some (.int (iI x1)), some (.int (iI x2)), some (.int (iI 0)), l4, l5]) (st' := []) dX7_addTo_1 (fun _ _ => rfl) ?_
  refine qv_ic dX7_addTo_2 ?_
  refine qv_g (pc' := 5) (ls' := [some (.ref (A j0)), some (.int (iI x1)), some (.int (iI x2)), some (.int (iI 0)), some (.int (iI 0)), l5]) (st' := []) dX7_addTo_3 (fun _ _ => rfl) ?_
  exact h
theorem v97_5 {v : VS} {Q : Rs → VS → Prop} {j0 : Nat} {x1 : Int} {x2 : Int} {x3 : Int} {x4 : Int} {l5 : Option Value}
    (h : (4 ≤ x4 → Q (Sum.inl none) v) ∧ (x4 < 4 → ((-2147483648 : Int) ≤ 8 * x4 ∧ 8 * x4 ≤ 2147483647) ∧ (8 * x4 = 0 ∨ 8 * x4 = 8 ∨ 8 * x4 = 16 ∨ 8 * x4 = 24) ∧ ((x2 / 2 ^ (8 * x4).toNat) % 256 = 0 → RW g C S m A 97 39 [some (.ref (A j0)), some (.int (iI x1)), some (.int (iI x2)), some (.int (iI x3)), some (.int (iI x4)), some (.int (iI ((x2 / 2 ^ (8 * x4).toNat) % 256)))] [] v Q) ∧ (¬ (x2 / 2 ^ (8 * x4).toNat) % 256 = 0 → ((-2147483648 : Int) ≤ x1 + x3 ∧ x1 + x3 ≤ 2147483647) ∧ ((0 : Int) ≤ x1 + x3 ∧ (x1 + x3 : Int) < rl j0) ∧ (∀ w5, w5 = uv v j0 (x1 + x3) ((x2 / 2 ^ (8 * x4).toNat) % 256) → ((-2147483648 : Int) ≤ x3 + 1 ∧ x3 + 1 ≤ 2147483647) ∧ RW g C S m A 97 39 [some (.ref (A j0)), some (.int (iI x1)), some (.int (iI x2)), some (.int (iI (x3 + 1))), some (.int (iI x4)), some (.int (iI ((x2 / 2 ^ (8 * x4).toNat) % 256)))] [] w5 Q)))) (hj0 : 0 < rl j0 := by decide) (hl0 : rl j0 ≤ 100000 := by decide) (hx1 : (-2147483648 : Int) ≤ x1 ∧ x1 ≤ 2147483647 := by omega) (hx2 : (-2147483648 : Int) ≤ x2 ∧ x2 ≤ 2147483647 := by omega) (hx3 : (-2147483648 : Int) ≤ x3 ∧ x3 ≤ 2147483647 := by omega) (hx4 : (-2147483648 : Int) ≤ x4 ∧ x4 ≤ 2147483647 := by omega) :
    RW g C S m A 97 5 [some (.ref (A j0)), some (.int (iI x1)), some (.int (iI x2)), some (.int (iI x3)), some (.int (iI x4)), l5] [] v Q := by
  refine qv_R (fun hvv => ?_)
  refine qv_g (pc' := 7) (ls' := [some (.ref (A j0)), some (.int (iI x1)), some (.int (iI x2)), some (.int (iI x3)), some (.int (iI x4)), l5]) (st' := [.int (iI x4)]) dX7_addTo_5 (fun _ _ => rfl) ?_
  refine qv_ic dX7_addTo_7 ?_
  obtain ⟨h1, h2⟩ := h
  refine qv_icmp (t := 45) dX7_addTo_8 (by decide) (d_ge hx4 (by decide)) (fun c => ?_) (fun c => ?_)
  · have h := h1 c
    exact qv_vret dX7_addTo_45 rfl h
  · have h := h2 (Int.not_le.mp c)
    refine qv_g (pc' := 12) (ls' := [some (.ref (A j0)), some (.int (iI x1)), some (.int (iI x2)), some (.int (iI x3)), some (.int (iI x4)), l5]) (st' := [.int (iI x2)]) dX7_addTo_11 (fun _ _ => rfl) ?_
    refine qv_bi dX7_addTo_12 (by decide) ?_
    refine qv_g (pc' := 16) (ls' := [some (.ref (A j0)), some (.int (iI x1)), some (.int (iI x2)), some (.int (iI x3)), some (.int (iI x4)), l5]) (st' := [.int (iI x4), .int (iI 8), .int (iI x2)]) dX7_addTo_14 (fun _ _ => rfl) ?_
    obtain ⟨hr1, h⟩ := h
    refine qv_mul dX7_addTo_16 ?_
    obtain ⟨hr2, h⟩ := h
    refine qv_shr dX7_addTo_17 hx2 hr2 ?_
    refine qv_si dX7_addTo_18 (by decide) ?_
    refine qv_and dX7_addTo_21 (iI_and 8 (by decide) _) ?_
    refine qv_g (pc' := 24) (ls' := [some (.ref (A j0)), some (.int (iI x1)), some (.int (iI x2)), some (.int (iI x3)), some (.int (iI x4)), some (.int (iI ((x2 / 2 ^ (8 * x4).toNat) % 256)))]) (st' := []) dX7_addTo_22 (fun _ _ => rfl) ?_
    refine qv_g (pc' := 26) (ls' := [some (.ref (A j0)), some (.int (iI x1)), some (.int (iI x2)), some (.int (iI x3)), some (.int (iI x4)), some (.int (iI ((x2 / 2 ^ (8 * x4).toNat) % 256)))]) (st' := [.int (iI ((x2 / 2 ^ (8 * x4).toNat) % 256))]) dX7_addTo_24 (fun _ _ => rfl) ?_
    obtain ⟨h1, h2⟩ := h
    refine qv_if (t := 39) dX7_addTo_26 (by decide) (d_eq (by omega) (by decide)) (fun c => ?_) (fun c => ?_)
    · have h := h1 c
      exact h
    · have h := h2 c
      refine qv_g (pc' := 30) (ls' := [some (.ref (A j0)), some (.int (iI x1)), some (.int (iI x2)), some (.int (iI x3)), some (.int (iI x4)), some (.int (iI ((x2 / 2 ^ (8 * x4).toNat) % 256)))]) (st' := [.ref (A j0)]) dX7_addTo_29 (fun _ _ => rfl) ?_
      refine qv_g (pc' := 31) (ls' := [some (.ref (A j0)), some (.int (iI x1)), some (.int (iI x2)), some (.int (iI x3)), some (.int (iI x4)), some (.int (iI ((x2 / 2 ^ (8 * x4).toNat) % 256)))]) (st' := [.int (iI x1), .ref (A j0)]) dX7_addTo_30 (fun _ _ => rfl) ?_
      refine qv_g (pc' := 32) (ls' := [some (.ref (A j0)), some (.int (iI x1)), some (.int (iI x2)), some (.int (iI x3)), some (.int (iI x4)), some (.int (iI ((x2 / 2 ^ (8 * x4).toNat) % 256)))]) (st' := [.int (iI x3), .int (iI x1), .ref (A j0)]) dX7_addTo_31 (fun _ _ => rfl) ?_
      obtain ⟨hr3, h⟩ := h
      refine qv_add dX7_addTo_32 ?_
      refine qv_g (pc' := 35) (ls' := [some (.ref (A j0)), some (.int (iI x1)), some (.int (iI x2)), some (.int (iI x3)), some (.int (iI x4)), some (.int (iI ((x2 / 2 ^ (8 * x4).toNat) % 256)))]) (st' := [.int (iI ((x2 / 2 ^ (8 * x4).toNat) % 256)), .int (iI (x1 + x3)), .ref (A j0)]) dX7_addTo_33 (fun _ _ => rfl) ?_
      obtain ⟨hr4, h⟩ := h
      refine qv_iast dX7_addTo_35 hj0 hr4 hl0 (by omega) ?_
      generalize ew5 : uv v j0 (x1 + x3) ((x2 / 2 ^ (8 * x4).toNat) % 256) = w5
      replace h := h _ ew5.symm
      refine qv_R (fun hvw5 => ?_)
      obtain ⟨hr6, h⟩ := h
      refine qv_inc (ls' := [some (.ref (A j0)), some (.int (iI x1)), some (.int (iI x2)), some (.int (iI (x3 + 1))), some (.int (iI x4)), some (.int (iI ((x2 / 2 ^ (8 * x4).toNat) % 256)))]) dX7_addTo_36 rfl (Nat.le_of_ble_eq_true rfl) rfl ?_
      exact h
theorem v97_39 {v : VS} {Q : Rs → VS → Prop} {j0 : Nat} {x1 : Int} {x2 : Int} {x3 : Int} {x4 : Int} {l5 : Option Value}
    (h : ((-2147483648 : Int) ≤ x4 + 1 ∧ x4 + 1 ≤ 2147483647) ∧ RW g C S m A 97 5 [some (.ref (A j0)), some (.int (iI x1)), some (.int (iI x2)), some (.int (iI x3)), some (.int (iI (x4 + 1))), l5] [] v Q) (hj0 : 0 < rl j0 := by decide) (hl0 : rl j0 ≤ 100000 := by decide) (hx1 : (-2147483648 : Int) ≤ x1 ∧ x1 ≤ 2147483647 := by omega) (hx2 : (-2147483648 : Int) ≤ x2 ∧ x2 ≤ 2147483647 := by omega) (hx3 : (-2147483648 : Int) ≤ x3 ∧ x3 ≤ 2147483647 := by omega) (hx4 : (-2147483648 : Int) ≤ x4 ∧ x4 ≤ 2147483647 := by omega) :
    RW g C S m A 97 39 [some (.ref (A j0)), some (.int (iI x1)), some (.int (iI x2)), some (.int (iI x3)), some (.int (iI x4)), l5] [] v Q := by
  refine qv_R (fun hvv => ?_)
  obtain ⟨hr1, h⟩ := h
  refine qv_inc (ls' := [some (.ref (A j0)), some (.int (iI x1)), some (.int (iI x2)), some (.int (iI x3)), some (.int (iI (x4 + 1))), l5]) dX7_addTo_39 rfl (Nat.le_of_ble_eq_true rfl) rfl ?_
  refine qv_goto (t := 5) dX7_addTo_42 (by decide) ?_
  exact h
theorem v98_0 {v : VS} {Q : Rs → VS → Prop} {x1 : Int} {x2 : Int} {l3 : Option Value}
    (h : RW g C S m A 96 0 [some (.int (iI x2)), none, none, none] [] v (VK g C S m A 98 4 [some (.ref m), some (.int (iI x1)), some (.int (iI x2)), l3] [] Q)) (hx1 : (-2147483648 : Int) ≤ x1 ∧ x1 ≤ 2147483647 := by omega) (hx2 : (-2147483648 : Int) ≤ x2 ∧ x2 ≤ 2147483647 := by omega) :
    RW g C S m A 98 0 [some (.ref m), some (.int (iI x1)), some (.int (iI x2)), l3] [] v Q := by
  refine qv_R (fun hvv => ?_)
  refine qv_g (pc' := 1) (ls' := [some (.ref m), some (.int (iI x1)), some (.int (iI x2)), l3]) (st' := [.int (iI x2)]) dX7_key_0 (fun _ _ => rfl) ?_
  exact qv_call dX7_key_1 (fun _ _ => ex_calS rfl (by decide)) rfl (Nat.le_of_ble_eq_true rfl) (Nat.le_of_ble_eq_true rfl) (Nat.le_of_ble_eq_true rfl) (fun _ _ => rfl) rfl rfl rfl h
theorem v98_4 {v : VS} {Q : Rs → VS → Prop} {x1 : Int} {x2 : Int} {l3 : Option Value} {u0 : Int}
    (h : RW g C S m A 93 0 [some (.ref m), some (.int (iI x1))] [] v (VK g C S m A 98 11 [some (.ref m), some (.int (iI x1)), some (.int (iI x2)), some (.int (iI u0))] [.ref m] Q)) (hx1 : (-2147483648 : Int) ≤ x1 ∧ x1 ≤ 2147483647 := by omega) (hx2 : (-2147483648 : Int) ≤ x2 ∧ x2 ≤ 2147483647 := by omega) (hu0 : (-2147483648 : Int) ≤ u0 ∧ u0 ≤ 2147483647 := by omega) :
    RW g C S m A 98 4 [some (.ref m), some (.int (iI x1)), some (.int (iI x2)), l3] [.int (iI u0)] v Q := by
  refine qv_R (fun hvv => ?_)
  refine qv_g (pc' := 5) (ls' := [some (.ref m), some (.int (iI x1)), some (.int (iI x2)), some (.int (iI u0))]) (st' := []) dX7_key_4 (fun _ _ => rfl) ?_
  refine qv_g (pc' := 6) (ls' := [some (.ref m), some (.int (iI x1)), some (.int (iI x2)), some (.int (iI u0))]) (st' := [.ref m]) dX7_key_5 (fun _ _ => rfl) ?_
  refine qv_g (pc' := 7) (ls' := [some (.ref m), some (.int (iI x1)), some (.int (iI x2)), some (.int (iI u0))]) (st' := [.ref m, .ref m]) dX7_key_6 (fun _ _ => rfl) ?_
  refine qv_g (pc' := 8) (ls' := [some (.ref m), some (.int (iI x1)), some (.int (iI x2)), some (.int (iI u0))]) (st' := [.int (iI x1), .ref m, .ref m]) dX7_key_7 (fun _ _ => rfl) ?_
  exact qv_call dX7_key_8 (fun _ _ => ex_calV rfl (by decide)) rfl (Nat.le_of_ble_eq_true rfl) (Nat.le_of_ble_eq_true rfl) (Nat.le_of_ble_eq_true rfl) (fun _ hm => rcv0 rfl rfl (by decide) hm) rfl rfl rfl h
theorem v98_11 {v : VS} {Q : Rs → VS → Prop} {x1 : Int} {x2 : Int} {x3 : Int} {u0 : Int}
    (h : (¬ u0 = 0 → (¬ x3 = (-1) → ((0 : Int) ≤ x1 ∧ (x1 : Int) < 24) ∧ ((-2147483648 : Int) ≤ (v 3 x1) + x3 ∧ (v 3 x1) + x3 ≤ 2147483647) ∧ ((v 3 x1) + x3 ≤ 16 → RW g C S m A 98 45 [some (.ref m), some (.int (iI x1)), some (.int (iI x2)), some (.int (iI x3))] [.int (iI 0), .ref m] v Q) ∧ (16 < (v 3 x1) + x3 → RW g C S m A 98 45 [some (.ref m), some (.int (iI x1)), some (.int (iI x2)), some (.int (iI x3))] [.int (iI 3), .ref m] v Q)) ∧ (x3 = (-1) → RW g C S m A 98 45 [some (.ref m), some (.int (iI x1)), some (.int (iI x2)), some (.int (iI x3))] [.int (iI 2), .ref m] v Q)) ∧ (u0 = 0 → RW g C S m A 98 45 [some (.ref m), some (.int (iI x1)), some (.int (iI x2)), some (.int (iI x3))] [.int (iI 1), .ref m] v Q)) (hx1 : (-2147483648 : Int) ≤ x1 ∧ x1 ≤ 2147483647 := by omega) (hx2 : (-2147483648 : Int) ≤ x2 ∧ x2 ≤ 2147483647 := by omega) (hx3 : (-2147483648 : Int) ≤ x3 ∧ x3 ≤ 2147483647 := by omega) (hu0 : (-2147483648 : Int) ≤ u0 ∧ u0 ≤ 2147483647 := by omega) :
    RW g C S m A 98 11 [some (.ref m), some (.int (iI x1)), some (.int (iI x2)), some (.int (iI x3))] [.int (iI u0), .ref m] v Q := by
  refine qv_R (fun hvv => ?_)
  obtain ⟨h1, h2⟩ := h
  refine qv_if (t := 18) dX7_key_11 (by decide) (d_ne hu0 (by decide)) (fun c => ?_) (fun c => ?_)
  · have h := h1 c
    refine qv_g (pc' := 19) (ls' := [some (.ref m), some (.int (iI x1)), some (.int (iI x2)), some (.int (iI x3))]) (st' := [.int (iI x3), .ref m]) dX7_key_18 (fun _ _ => rfl) ?_
    refine qv_ic dX7_key_19 ?_
    obtain ⟨h1, h2⟩ := h
    refine qv_icmp (t := 27) dX7_key_20 (by decide) (d_ne hx3 (by decide)) (fun c => ?_) (fun c => ?_)
    · have h := h1 c
      refine qv_g (pc' := 28) (ls' := [some (.ref m), some (.int (iI x1)), some (.int (iI x2)), some (.int (iI x3))]) (st' := [.ref m, .ref m]) dX7_key_27 (fun _ _ => rfl) ?_
      refine qv_getA dX7_key_28 rfl rfl (by decide) ?_
      refine qv_g (pc' := 32) (ls' := [some (.ref m), some (.int (iI x1)), some (.int (iI x2)), some (.int (iI x3))]) (st' := [.int (iI x1), .ref (A 3), .ref m]) dX7_key_31 (fun _ _ => rfl) ?_
      obtain ⟨hr1, h⟩ := h
      refine qv_iald dX7_key_32 (by decide) hr1 (by decide) ?_
      refine qv_g (pc' := 34) (ls' := [some (.ref m), some (.int (iI x1)), some (.int (iI x2)), some (.int (iI x3))]) (st' := [.int (iI x3), .int (iI (v 3 x1)), .ref m]) dX7_key_33 (fun _ _ => rfl) ?_
      obtain ⟨hr2, h⟩ := h
      refine qv_add dX7_key_34 ?_
      refine qv_bi dX7_key_35 (by decide) ?_
      obtain ⟨h1, h2⟩ := h
      refine qv_icmp (t := 44) dX7_key_37 (by decide) (d_le hr2 (by decide)) (fun c => ?_) (fun c => ?_)
      · have h := h1 c
        refine qv_ic dX7_key_44 ?_
        exact h
      · have h := h2 (Int.not_le.mp c)
        refine qv_ic dX7_key_40 ?_
        refine qv_goto (t := 45) dX7_key_41 (by decide) ?_
        exact h
    · have h := h2 (Decidable.of_not_not c)
      refine qv_ic dX7_key_23 ?_
      refine qv_goto (t := 45) dX7_key_24 (by decide) ?_
      exact h
  · have h := h2 (Decidable.of_not_not c)
    refine qv_ic dX7_key_14 ?_
    refine qv_goto (t := 45) dX7_key_15 (by decide) ?_
    exact h
theorem v98_45 {v : VS} {Q : Rs → VS → Prop} {x1 : Int} {x2 : Int} {x3 : Int} {u0 : Int}
    (h : (∀ w1, w1 = uv v 0 0 u0 → (¬ w1 0 0 = 0 → RW g C S m A 98 88 [some (.ref m), some (.int (iI x1)), some (.int (iI x2)), some (.int (iI x3))] [] w1 Q) ∧ (w1 0 0 = 0 → ((-2147483648 : Int) ≤ 16 * x1 ∧ 16 * x1 ≤ 2147483647) ∧ ((0 : Int) ≤ x1 ∧ (x1 : Int) < 24) ∧ ((-2147483648 : Int) ≤ (16 * x1) + (w1 3 x1) ∧ (16 * x1) + (w1 3 x1) ≤ 2147483647) ∧ RW g C S m A 97 0 [some (.ref (A 4)), some (.int (iI ((16 * x1) + (w1 3 x1)))), some (.int (iI x2)), none, none, none] [] w1 (VK g C S m A 98 74 [some (.ref m), some (.int (iI x1)), some (.int (iI x2)), some (.int (iI x3))] [] Q)))) (hx1 : (-2147483648 : Int) ≤ x1 ∧ x1 ≤ 2147483647 := by omega) (hx2 : (-2147483648 : Int) ≤ x2 ∧ x2 ≤ 2147483647 := by omega) (hx3 : (-2147483648 : Int) ≤ x3 ∧ x3 ≤ 2147483647 := by omega) (hu0 : (-2147483648 : Int) ≤ u0 ∧ u0 ≤ 2147483647 := by omega) :
    RW g C S m A 98 45 [some (.ref m), some (.int (iI x1)), some (.int (iI x2)), some (.int (iI x3))] [.int (iI u0), .ref m] v Q := by
  refine qv_R (fun hvv => ?_)
  refine qv_putI dX7_key_45 rfl rfl (Or.inl rfl) rfl (Or.inl rfl) hu0 ?_
  generalize ew1 : uv v 0 0 u0 = w1
  replace h := h _ ew1.symm
  refine qv_R (fun hvw1 => ?_)
  refine qv_g (pc' := 49) (ls' := [some (.ref m), some (.int (iI x1)), some (.int (iI x2)), some (.int (iI x3))]) (st' := [.ref m]) dX7_key_48 (fun _ _ => rfl) ?_
  refine qv_getI dX7_key_49 rfl rfl rfl ?_
  obtain ⟨h1, h2⟩ := h
  refine qv_if (t := 88) dX7_key_52 (by decide) (d_ne (hvw1 _ _) (by decide)) (fun c => ?_) (fun c => ?_)
  · have h := h1 c
    exact h
  · have h := h2 (Decidable.of_not_not c)
    refine qv_g (pc' := 56) (ls' := [some (.ref m), some (.int (iI x1)), some (.int (iI x2)), some (.int (iI x3))]) (st' := [.ref m]) dX7_key_55 (fun _ _ => rfl) ?_
    refine qv_getA dX7_key_56 rfl rfl (by decide) ?_
    refine qv_bi dX7_key_59 (by decide) ?_
    refine qv_g (pc' := 62) (ls' := [some (.ref m), some (.int (iI x1)), some (.int (iI x2)), some (.int (iI x3))]) (st' := [.int (iI x1), .int (iI 16), .ref (A 4)]) dX7_key_61 (fun _ _ => rfl) ?_
    obtain ⟨hr2, h⟩ := h
    refine qv_mul dX7_key_62 ?_
    refine qv_g (pc' := 64) (ls' := [some (.ref m), some (.int (iI x1)), some (.int (iI x2)), some (.int (iI x3))]) (st' := [.ref m, .int (iI (16 * x1)), .ref (A 4)]) dX7_key_63 (fun _ _ => rfl) ?_
    refine qv_getA dX7_key_64 rfl rfl (by decide) ?_
    refine qv_g (pc' := 68) (ls' := [some (.ref m), some (.int (iI x1)), some (.int (iI x2)), some (.int (iI x3))]) (st' := [.int (iI x1), .ref (A 3), .int (iI (16 * x1)), .ref (A 4)]) dX7_key_67 (fun _ _ => rfl) ?_
    obtain ⟨hr3, h⟩ := h
    refine qv_iald dX7_key_68 (by decide) hr3 (by decide) ?_
    obtain ⟨hr4, h⟩ := h
    refine qv_add dX7_key_69 ?_
    refine qv_g (pc' := 71) (ls' := [some (.ref m), some (.int (iI x1)), some (.int (iI x2)), some (.int (iI x3))]) (st' := [.int (iI x2), .int (iI ((16 * x1) + (w1 3 x1))), .ref (A 4)]) dX7_key_70 (fun _ _ => rfl) ?_
    exact qv_call dX7_key_71 (fun _ _ => ex_calS rfl (by decide)) rfl (Nat.le_of_ble_eq_true rfl) (Nat.le_of_ble_eq_true rfl) (Nat.le_of_ble_eq_true rfl) (fun _ _ => rfl) rfl rfl rfl h
theorem v98_74 {v : VS} {Q : Rs → VS → Prop} {x1 : Int} {l2 : Option Value} {x3 : Int}
    (h : ((0 : Int) ≤ x1 ∧ (x1 : Int) < 24) ∧ ((-2147483648 : Int) ≤ (v 3 x1) + x3 ∧ (v 3 x1) + x3 ≤ 2147483647) ∧ ((0 : Int) ≤ x1 ∧ (x1 : Int) < 24) ∧ (∀ w4, w4 = uv v 3 x1 ((v 3 x1) + x3) → RW g C S m A 98 88 [some (.ref m), some (.int (iI x1)), l2, some (.int (iI x3))] [] w4 Q)) (hx1 : (-2147483648 : Int) ≤ x1 ∧ x1 ≤ 2147483647 := by omega) (hx3 : (-2147483648 : Int) ≤ x3 ∧ x3 ≤ 2147483647 := by omega) :
    RW g C S m A 98 74 [some (.ref m), some (.int (iI x1)), l2, some (.int (iI x3))] [] v Q := by
  refine qv_R (fun hvv => ?_)
  refine qv_g (pc' := 75) (ls' := [some (.ref m), some (.int (iI x1)), l2, some (.int (iI x3))]) (st' := [.ref m]) dX7_key_74 (fun _ _ => rfl) ?_
  refine qv_getA dX7_key_75 rfl rfl (by decide) ?_
  refine qv_g (pc' := 79) (ls' := [some (.ref m), some (.int (iI x1)), l2, some (.int (iI x3))]) (st' := [.int (iI x1), .ref (A 3)]) dX7_key_78 (fun _ _ => rfl) ?_
  refine qv_g (pc' := 80) (ls' := [some (.ref m), some (.int (iI x1)), l2, some (.int (iI x3))]) (st' := [.ref m, .int (iI x1), .ref (A 3)]) dX7_key_79 (fun _ _ => rfl) ?_
  refine qv_getA dX7_key_80 rfl rfl (by decide) ?_
  refine qv_g (pc' := 84) (ls' := [some (.ref m), some (.int (iI x1)), l2, some (.int (iI x3))]) (st' := [.int (iI x1), .ref (A 3), .int (iI x1), .ref (A 3)]) dX7_key_83 (fun _ _ => rfl) ?_
  obtain ⟨hr1, h⟩ := h
  refine qv_iald dX7_key_84 (by decide) hr1 (by decide) ?_
  refine qv_g (pc' := 86) (ls' := [some (.ref m), some (.int (iI x1)), l2, some (.int (iI x3))]) (st' := [.int (iI x3), .int (iI (v 3 x1)), .int (iI x1), .ref (A 3)]) dX7_key_85 (fun _ _ => rfl) ?_
  obtain ⟨hr2, h⟩ := h
  refine qv_add dX7_key_86 ?_
  obtain ⟨hr3, h⟩ := h
  refine qv_iast dX7_key_87 (by decide) hr3 (by decide) hr2 ?_
  generalize ew4 : uv v 3 x1 ((v 3 x1) + x3) = w4
  replace h := h _ ew4.symm
  refine qv_R (fun hvw4 => ?_)
  exact h
theorem v98_88 {v : VS} {Q : Rs → VS → Prop} {l0 : Option Value} {l1 : Option Value} {l2 : Option Value} {l3 : Option Value}
    (h : Q (Sum.inl none) v)  :
    RW g C S m A 98 88 [l0, l1, l2, l3] [] v Q := by
  refine qv_R (fun hvv => ?_)
  exact qv_vret dX7_key_88 rfl h
theorem v99_0 {v : VS} {Q : Rs → VS → Prop} {x1 : Int} {x2 : Int} {x3 : Int} {l4 : Option Value} {l5 : Option Value}
    (h : RW g C S m A 96 0 [some (.int (iI x3)), none, none, none] [] v (VK g C S m A 99 4 [some (.ref m), some (.int (iI x1)), some (.int (iI x2)), some (.int (iI x3)), l4, l5] [] Q)) (hx1 : (-2147483648 : Int) ≤ x1 ∧ x1 ≤ 2147483647 := by omega) (hx2 : (-2147483648 : Int) ≤ x2 ∧ x2 ≤ 2147483647 := by omega) (hx3 : (-2147483648 : Int) ≤ x3 ∧ x3 ≤ 2147483647 := by omega) :
    RW g C S m A 99 0 [some (.ref m), some (.int (iI x1)), some (.int (iI x2)), some (.int (iI x3)), l4, l5] [] v Q := by
  refine qv_R (fun hvv => ?_)
  refine qv_g (pc' := 1) (ls' := [some (.ref m), some (.int (iI x1)), some (.int (iI x2)), some (.int (iI x3)), l4, l5]) (st' := [.int (iI x3)]) dX7_field_0 (fun _ _ => rfl) ?_
  exact qv_call dX7_field_1 (fun _ _ => ex_calS rfl (by decide)) rfl (Nat.le_of_ble_eq_true rfl) (Nat.le_of_ble_eq_true rfl) (Nat.le_of_ble_eq_true rfl) (fun _ _ => rfl) rfl rfl rfl h
theorem v99_4 {v : VS} {Q : Rs → VS → Prop} {x1 : Int} {x2 : Int} {x3 : Int} {l4 : Option Value} {l5 : Option Value} {u0 : Int}
    (h : RW g C S m A 93 0 [some (.ref m), some (.int (iI x1))] [] v (VK g C S m A 99 12 [some (.ref m), some (.int (iI x1)), some (.int (iI x2)), some (.int (iI x3)), some (.int (iI u0)), l5] [.ref m] Q)) (hx1 : (-2147483648 : Int) ≤ x1 ∧ x1 ≤ 2147483647 := by omega) (hx2 : (-2147483648 : Int) ≤ x2 ∧ x2 ≤ 2147483647 := by omega) (hx3 : (-2147483648 : Int) ≤ x3 ∧ x3 ≤ 2147483647 := by omega) (hu0 : (-2147483648 : Int) ≤ u0 ∧ u0 ≤ 2147483647 := by omega) :
    RW g C S m A 99 4 [some (.ref m), some (.int (iI x1)), some (.int (iI x2)), some (.int (iI x3)), l4, l5] [.int (iI u0)] v Q := by
  refine qv_R (fun hvv => ?_)
  refine qv_g (pc' := 6) (ls' := [some (.ref m), some (.int (iI x1)), some (.int (iI x2)), some (.int (iI x3)), some (.int (iI u0)), l5]) (st' := []) dX7_field_4 (fun _ _ => rfl) ?_
  refine qv_g (pc' := 7) (ls' := [some (.ref m), some (.int (iI x1)), some (.int (iI x2)), some (.int (iI x3)), some (.int (iI u0)), l5]) (st' := [.ref m]) dX7_field_6 (fun _ _ => rfl) ?_
  refine qv_g (pc' := 8) (ls' := [some (.ref m), some (.int (iI x1)), some (.int (iI x2)), some (.int (iI x3)), some (.int (iI u0)), l5]) (st' := [.ref m, .ref m]) dX7_field_7 (fun _ _ => rfl) ?_
  refine qv_g (pc' := 9) (ls' := [some (.ref m), some (.int (iI x1)), some (.int (iI x2)), some (.int (iI x3)), some (.int (iI u0)), l5]) (st' := [.int (iI x1), .ref m, .ref m]) dX7_field_8 (fun _ _ => rfl) ?_
  exact qv_call dX7_field_9 (fun _ _ => ex_calV rfl (by decide)) rfl (Nat.le_of_ble_eq_true rfl) (Nat.le_of_ble_eq_true rfl) (Nat.le_of_ble_eq_true rfl) (fun _ hm => rcv0 rfl rfl (by decide) hm) rfl rfl rfl h
theorem v99_12 {v : VS} {Q : Rs → VS → Prop} {x1 : Int} {x2 : Int} {x3 : Int} {x4 : Int} {l5 : Option Value} {u0 : Int}
    (h : (¬ u0 = 0 → (x2 < 0 → RW g C S m A 99 29 [some (.ref m), some (.int (iI x1)), some (.int (iI x2)), some (.int (iI x3)), some (.int (iI x4)), l5] [.ref m] v Q) ∧ (0 ≤ x2 → (x2 ≤ 7 → (¬ x4 = (-1) → ((-2147483648 : Int) ≤ 8 * x1 ∧ 8 * x1 ≤ 2147483647) ∧ ((-2147483648 : Int) ≤ (8 * x1) + x2 ∧ (8 * x1) + x2 ≤ 2147483647) ∧ ((0 : Int) ≤ (8 * x1) + x2 ∧ ((8 * x1) + x2 : Int) < 192) ∧ ((-2147483648 : Int) ≤ (v 5 ((8 * x1) + x2)) + x4 ∧ (v 5 ((8 * x1) + x2)) + x4 ≤ 2147483647) ∧ ((v 5 ((8 * x1) + x2)) + x4 ≤ 80 → RW g C S m A 99 67 [some (.ref m), some (.int (iI x1)), some (.int (iI x2)), some (.int (iI x3)), some (.int (iI x4)), l5] [.int (iI 0), .ref m] v Q) ∧ (80 < (v 5 ((8 * x1) + x2)) + x4 → RW g C S m A 99 67 [some (.ref m), some (.int (iI x1)), some (.int (iI x2)), some (.int (iI x3)), some (.int (iI x4)), l5] [.int (iI 4), .ref m] v Q)) ∧ (x4 = (-1) → RW g C S m A 99 67 [some (.ref m), some (.int (iI x1)), some (.int (iI x2)), some (.int (iI x3)), some (.int (iI x4)), l5] [.int (iI 3), .ref m] v Q)) ∧ (7 < x2 → RW g C S m A 99 29 [some (.ref m), some (.int (iI x1)), some (.int (iI x2)), some (.int (iI x3)), some (.int (iI x4)), l5] [.ref m] v Q))) ∧ (u0 = 0 → RW g C S m A 99 67 [some (.ref m), some (.int (iI x1)), some (.int (iI x2)), some (.int (iI x3)), some (.int (iI x4)), l5] [.int (iI 1), .ref m] v Q)) (hx1 : (-2147483648 : Int) ≤ x1 ∧ x1 ≤ 2147483647 := by omega) (hx2 : (-2147483648 : Int) ≤ x2 ∧ x2 ≤ 2147483647 := by omega) (hx3 : (-2147483648 : Int) ≤ x3 ∧ x3 ≤ 2147483647 := by omega) (hx4 : (-2147483648 : Int) ≤ x4 ∧ x4 ≤ 2147483647 := by omega) (hu0 : (-2147483648 : Int) ≤ u0 ∧ u0 ≤ 2147483647 := by omega) :
    RW g C S m A 99 12 [some (.ref m), some (.int (iI x1)), some (.int (iI x2)), some (.int (iI x3)), some (.int (iI x4)), l5] [.int (iI u0), .ref m] v Q := by
  refine qv_R (fun hvv => ?_)
  obtain ⟨h1, h2⟩ := h
  refine qv_if (t := 19) dX7_field_12 (by decide) (d_ne hu0 (by decide)) (fun c => ?_) (fun c => ?_)
  · have h := h1 c
    refine qv_g (pc' := 20) (ls' := [some (.ref m), some (.int (iI x1)), some (.int (iI x2)), some (.int (iI x3)), some (.int (iI x4)), l5]) (st' := [.int (iI x2), .ref m]) dX7_field_19 (fun _ _ => rfl) ?_
    obtain ⟨h1, h2⟩ := h
    refine qv_if (t := 29) dX7_field_20 (by decide) (d_lt hx2 (by decide)) (fun c => ?_) (fun c => ?_)
    · have h := h1 c
      exact h
    · have h := h2 (Int.not_lt.mp c)
      refine qv_g (pc' := 24) (ls' := [some (.ref m), some (.int (iI x1)), some (.int (iI x2)), some (.int (iI x3)), some (.int (iI x4)), l5]) (st' := [.int (iI x2), .ref m]) dX7_field_23 (fun _ _ => rfl) ?_
      refine qv_bi dX7_field_24 (by decide) ?_
      obtain ⟨h1, h2⟩ := h
      refine qv_icmp (t := 33) dX7_field_26 (by decide) (d_le hx2 (by decide)) (fun c => ?_) (fun c => ?_)
      · have h := h1 c
        refine qv_g (pc' := 35) (ls' := [some (.ref m), some (.int (iI x1)), some (.int (iI x2)), some (.int (iI x3)), some (.int (iI x4)), l5]) (st' := [.int (iI x4), .ref m]) dX7_field_33 (fun _ _ => rfl) ?_
        refine qv_ic dX7_field_35 ?_
        obtain ⟨h1, h2⟩ := h
        refine qv_icmp (t := 43) dX7_field_36 (by decide) (d_ne hx4 (by decide)) (fun c => ?_) (fun c => ?_)
        · have h := h1 c
          refine qv_g (pc' := 44) (ls' := [some (.ref m), some (.int (iI x1)), some (.int (iI x2)), some (.int (iI x3)), some (.int (iI x4)), l5]) (st' := [.ref m, .ref m]) dX7_field_43 (fun _ _ => rfl) ?_
          refine qv_getA dX7_field_44 rfl rfl (by decide) ?_
          refine qv_bi dX7_field_47 (by decide) ?_
          refine qv_g (pc' := 50) (ls' := [some (.ref m), some (.int (iI x1)), some (.int (iI x2)), some (.int (iI x3)), some (.int (iI x4)), l5]) (st' := [.int (iI x1), .int (iI 8), .ref (A 5), .ref m]) dX7_field_49 (fun _ _ => rfl) ?_
          obtain ⟨hr1, h⟩ := h
          refine qv_mul dX7_field_50 ?_
          refine qv_g (pc' := 52) (ls' := [some (.ref m), some (.int (iI x1)), some (.int (iI x2)), some (.int (iI x3)), some (.int (iI x4)), l5]) (st' := [.int (iI x2), .int (iI (8 * x1)), .ref (A 5), .ref m]) dX7_field_51 (fun _ _ => rfl) ?_
          obtain ⟨hr2, h⟩ := h
          refine qv_add dX7_field_52 ?_
          obtain ⟨hr3, h⟩ := h
          refine qv_iald dX7_field_53 (by decide) hr3 (by decide) ?_
          refine qv_g (pc' := 56) (ls' := [some (.ref m), some (.int (iI x1)), some (.int (iI x2)), some (.int (iI x3)), some (.int (iI x4)), l5]) (st' := [.int (iI x4), .int (iI (v 5 ((8 * x1) + x2))), .ref m]) dX7_field_54 (fun _ _ => rfl) ?_
          obtain ⟨hr4, h⟩ := h
          refine qv_add dX7_field_56 ?_
          refine qv_bi dX7_field_57 (by decide) ?_
          obtain ⟨h1, h2⟩ := h
          refine qv_icmp (t := 66) dX7_field_59 (by decide) (d_le hr4 (by decide)) (fun c => ?_) (fun c => ?_)
          · have h := h1 c
            refine qv_ic dX7_field_66 ?_
            exact h
          · have h := h2 (Int.not_le.mp c)
            refine qv_ic dX7_field_62 ?_
            refine qv_goto (t := 67) dX7_field_63 (by decide) ?_
            exact h
        · have h := h2 (Decidable.of_not_not c)
          refine qv_ic dX7_field_39 ?_
          refine qv_goto (t := 67) dX7_field_40 (by decide) ?_
          exact h
      · have h := h2 (Int.not_le.mp c)
        exact h
  · have h := h2 (Decidable.of_not_not c)
    refine qv_ic dX7_field_15 ?_
    refine qv_goto (t := 67) dX7_field_16 (by decide) ?_
    exact h
theorem v99_29 {v : VS} {Q : Rs → VS → Prop} {x1 : Int} {x2 : Int} {x3 : Int} {x4 : Int} {l5 : Option Value}
    (h : RW g C S m A 99 67 [some (.ref m), some (.int (iI x1)), some (.int (iI x2)), some (.int (iI x3)), some (.int (iI x4)), l5] [.int (iI 2), .ref m] v Q) (hx1 : (-2147483648 : Int) ≤ x1 ∧ x1 ≤ 2147483647 := by omega) (hx2 : (-2147483648 : Int) ≤ x2 ∧ x2 ≤ 2147483647 := by omega) (hx3 : (-2147483648 : Int) ≤ x3 ∧ x3 ≤ 2147483647 := by omega) (hx4 : (-2147483648 : Int) ≤ x4 ∧ x4 ≤ 2147483647 := by omega) :
    RW g C S m A 99 29 [some (.ref m), some (.int (iI x1)), some (.int (iI x2)), some (.int (iI x3)), some (.int (iI x4)), l5] [.ref m] v Q := by
  refine qv_R (fun hvv => ?_)
  refine qv_ic dX7_field_29 ?_
  refine qv_goto (t := 67) dX7_field_30 (by decide) ?_
  exact h
theorem v99_67 {v : VS} {Q : Rs → VS → Prop} {x1 : Int} {x2 : Int} {x3 : Int} {x4 : Int} {l5 : Option Value} {u0 : Int}
    (h : (∀ w1, w1 = uv v 0 0 u0 → (¬ w1 0 0 = 0 → RW g C S m A 99 123 [some (.ref m), some (.int (iI x1)), some (.int (iI x2)), some (.int (iI x3)), some (.int (iI x4)), l5] [] w1 Q) ∧ (w1 0 0 = 0 → ((-2147483648 : Int) ≤ 8 * x1 ∧ 8 * x1 ≤ 2147483647) ∧ ((-2147483648 : Int) ≤ (8 * x1) + x2 ∧ (8 * x1) + x2 ≤ 2147483647) ∧ ((-2147483648 : Int) ≤ 80 * ((8 * x1) + x2) ∧ 80 * ((8 * x1) + x2) ≤ 2147483647) ∧ ((0 : Int) ≤ (8 * x1) + x2 ∧ ((8 * x1) + x2 : Int) < 192) ∧ ((-2147483648 : Int) ≤ (80 * ((8 * x1) + x2)) + (w1 5 ((8 * x1) + x2)) ∧ (80 * ((8 * x1) + x2)) + (w1 5 ((8 * x1) + x2)) ≤ 2147483647) ∧ RW g C S m A 97 0 [some (.ref (A 6)), some (.int (iI ((80 * ((8 * x1) + x2)) + (w1 5 ((8 * x1) + x2))))), some (.int (iI x3)), none, none, none] [] w1 (VK g C S m A 99 106 [some (.ref m), some (.int (iI x1)), some (.int (iI x2)), some (.int (iI x3)), some (.int (iI x4)), some (.int (iI ((8 * x1) + x2)))] [] Q)))) (hx1 : (-2147483648 : Int) ≤ x1 ∧ x1 ≤ 2147483647 := by omega) (hx2 : (-2147483648 : Int) ≤ x2 ∧ x2 ≤ 2147483647 := by omega) (hx3 : (-2147483648 : Int) ≤ x3 ∧ x3 ≤ 2147483647 := by omega) (hx4 : (-2147483648 : Int) ≤ x4 ∧ x4 ≤ 2147483647 := by omega) (hu0 : (-2147483648 : Int) ≤ u0 ∧ u0 ≤ 2147483647 := by omega) :
    RW g C S m A 99 67 [some (.ref m), some (.int (iI x1)), some (.int (iI x2)), some (.int (iI x3)), some (.int (iI x4)), l5] [.int (iI u0), .ref m] v Q := by
  refine qv_R (fun hvv => ?_)
  refine qv_putI dX7_field_67 rfl rfl (Or.inl rfl) rfl (Or.inl rfl) hu0 ?_
  generalize ew1 : uv v 0 0 u0 = w1
  replace h := h _ ew1.symm
  refine qv_R (fun hvw1 => ?_)
  refine qv_g (pc' := 71) (ls' := [some (.ref m), some (.int (iI x1)), some (.int (iI x2)), some (.int (iI x3)), some (.int (iI x4)), l5]) (st' := [.ref m]) dX7_field_70 (fun _ _ => rfl) ?_
  refine qv_getI dX7_field_71 rfl rfl rfl ?_
  obtain ⟨h1, h2⟩ := h
  refine qv_if (t := 123) dX7_field_74 (by decide) (d_ne (hvw1 _ _) (by decide)) (fun c => ?_) (fun c => ?_)
  · have h := h1 c
    exact h
  · have h := h2 (Decidable.of_not_not c)
    refine qv_bi dX7_field_77 (by decide) ?_
    refine qv_g (pc' := 80) (ls' := [some (.ref m), some (.int (iI x1)), some (.int (iI x2)), some (.int (iI x3)), some (.int (iI x4)), l5]) (st' := [.int (iI x1), .int (iI 8)]) dX7_field_79 (fun _ _ => rfl) ?_
    obtain ⟨hr2, h⟩ := h
    refine qv_mul dX7_field_80 ?_
    refine qv_g (pc' := 82) (ls' := [some (.ref m), some (.int (iI x1)), some (.int (iI x2)), some (.int (iI x3)), some (.int (iI x4)), l5]) (st' := [.int (iI x2), .int (iI (8 * x1))]) dX7_field_81 (fun _ _ => rfl) ?_
    obtain ⟨hr3, h⟩ := h
    refine qv_add dX7_field_82 ?_
    refine qv_g (pc' := 85) (ls' := [some (.ref m), some (.int (iI x1)), some (.int (iI x2)), some (.int (iI x3)), some (.int (iI x4)), some (.int (iI ((8 * x1) + x2)))]) (st' := []) dX7_field_83 (fun _ _ => rfl) ?_
    refine qv_g (pc' := 86) (ls' := [some (.ref m), some (.int (iI x1)), some (.int (iI x2)), some (.int (iI x3)), some (.int (iI x4)), some (.int (iI ((8 * x1) + x2)))]) (st' := [.ref m]) dX7_field_85 (fun _ _ => rfl) ?_
    refine qv_getA dX7_field_86 rfl rfl (by decide) ?_
    refine qv_bi dX7_field_89 (by decide) ?_
    refine qv_g (pc' := 93) (ls' := [some (.ref m), some (.int (iI x1)), some (.int (iI x2)), some (.int (iI x3)), some (.int (iI x4)), some (.int (iI ((8 * x1) + x2)))]) (st' := [.int (iI ((8 * x1) + x2)), .int (iI 80), .ref (A 6)]) dX7_field_91 (fun _ _ => rfl) ?_
    obtain ⟨hr4, h⟩ := h
    refine qv_mul dX7_field_93 ?_
    refine qv_g (pc' := 95) (ls' := [some (.ref m), some (.int (iI x1)), some (.int (iI x2)), some (.int (iI x3)), some (.int (iI x4)), some (.int (iI ((8 * x1) + x2)))]) (st' := [.ref m, .int (iI (80 * ((8 * x1) + x2))), .ref (A 6)]) dX7_field_94 (fun _ _ => rfl) ?_
    refine qv_getA dX7_field_95 rfl rfl (by decide) ?_
    refine qv_g (pc' := 100) (ls' := [some (.ref m), some (.int (iI x1)), some (.int (iI x2)), some (.int (iI x3)), some (.int (iI x4)), some (.int (iI ((8 * x1) + x2)))]) (st' := [.int (iI ((8 * x1) + x2)), .ref (A 5), .int (iI (80 * ((8 * x1) + x2))), .ref (A 6)]) dX7_field_98 (fun _ _ => rfl) ?_
    obtain ⟨hr5, h⟩ := h
    refine qv_iald dX7_field_100 (by decide) hr5 (by decide) ?_
    obtain ⟨hr6, h⟩ := h
    refine qv_add dX7_field_101 ?_
    refine qv_g (pc' := 103) (ls' := [some (.ref m), some (.int (iI x1)), some (.int (iI x2)), some (.int (iI x3)), some (.int (iI x4)), some (.int (iI ((8 * x1) + x2)))]) (st' := [.int (iI x3), .int (iI ((80 * ((8 * x1) + x2)) + (w1 5 ((8 * x1) + x2)))), .ref (A 6)]) dX7_field_102 (fun _ _ => rfl) ?_
    exact qv_call dX7_field_103 (fun _ _ => ex_calS rfl (by decide)) rfl (Nat.le_of_ble_eq_true rfl) (Nat.le_of_ble_eq_true rfl) (Nat.le_of_ble_eq_true rfl) (fun _ _ => rfl) rfl rfl rfl h
theorem v99_106 {v : VS} {Q : Rs → VS → Prop} {l1 : Option Value} {l2 : Option Value} {l3 : Option Value} {x4 : Int} {x5 : Int}
    (h : ((0 : Int) ≤ x5 ∧ (x5 : Int) < 192) ∧ ((-2147483648 : Int) ≤ (v 5 x5) + x4 ∧ (v 5 x5) + x4 ≤ 2147483647) ∧ ((0 : Int) ≤ x5 ∧ (x5 : Int) < 192) ∧ (∀ w4, w4 = uv v 5 x5 ((v 5 x5) + x4) → RW g C S m A 99 123 [some (.ref m), l1, l2, l3, some (.int (iI x4)), some (.int (iI x5))] [] w4 Q)) (hx4 : (-2147483648 : Int) ≤ x4 ∧ x4 ≤ 2147483647 := by omega) (hx5 : (-2147483648 : Int) ≤ x5 ∧ x5 ≤ 2147483647 := by omega) :
    RW g C S m A 99 106 [some (.ref m), l1, l2, l3, some (.int (iI x4)), some (.int (iI x5))] [] v Q := by
  refine qv_R (fun hvv => ?_)
  refine qv_g (pc' := 107) (ls' := [some (.ref m), l1, l2, l3, some (.int (iI x4)), some (.int (iI x5))]) (st' := [.ref m]) dX7_field_106 (fun _ _ => rfl) ?_
  refine qv_getA dX7_field_107 rfl rfl (by decide) ?_
  refine qv_g (pc' := 112) (ls' := [some (.ref m), l1, l2, l3, some (.int (iI x4)), some (.int (iI x5))]) (st' := [.int (iI x5), .ref (A 5)]) dX7_field_110 (fun _ _ => rfl) ?_
  refine qv_g (pc' := 113) (ls' := [some (.ref m), l1, l2, l3, some (.int (iI x4)), some (.int (iI x5))]) (st' := [.ref m, .int (iI x5), .ref (A 5)]) dX7_field_112 (fun _ _ => rfl) ?_
  refine qv_getA dX7_field_113 rfl rfl (by decide) ?_
  refine qv_g (pc' := 118) (ls' := [some (.ref m), l1, l2, l3, some (.int (iI x4)), some (.int (iI x5))]) (st' := [.int (iI x5), .ref (A 5), .int (iI x5), .ref (A 5)]) dX7_field_116 (fun _ _ => rfl) ?_
  obtain ⟨hr1, h⟩ := h
  refine qv_iald dX7_field_118 (by decide) hr1 (by decide) ?_
  refine qv_g (pc' := 121) (ls' := [some (.ref m), l1, l2, l3, some (.int (iI x4)), some (.int (iI x5))]) (st' := [.int (iI x4), .int (iI (v 5 x5)), .int (iI x5), .ref (A 5)]) dX7_field_119 (fun _ _ => rfl) ?_
  obtain ⟨hr2, h⟩ := h
  refine qv_add dX7_field_121 ?_
  obtain ⟨hr3, h⟩ := h
  refine qv_iast dX7_field_122 (by decide) hr3 (by decide) hr2 ?_
  generalize ew4 : uv v 5 x5 ((v 5 x5) + x4) = w4
  replace h := h _ ew4.symm
  refine qv_R (fun hvw4 => ?_)
  exact h
theorem v99_123 {v : VS} {Q : Rs → VS → Prop} {l0 : Option Value} {l1 : Option Value} {l2 : Option Value} {l3 : Option Value} {l4 : Option Value} {l5 : Option Value}
    (h : Q (Sum.inl none) v)  :
    RW g C S m A 99 123 [l0, l1, l2, l3, l4, l5] [] v Q := by
  refine qv_R (fun hvv => ?_)
  exact qv_vret dX7_field_123 rfl h
theorem v100_0 {v : VS} {Q : Rs → VS → Prop} {x1 : Int} {l2 : Option Value} {l3 : Option Value}
    (h : RW g C S m A 93 0 [some (.ref m), some (.int (iI x1))] [] v (VK g C S m A 100 6 [some (.ref m), some (.int (iI x1)), l2, l3] [.ref m] Q)) (hx1 : (-2147483648 : Int) ≤ x1 ∧ x1 ≤ 2147483647 := by omega) :
    RW g C S m A 100 0 [some (.ref m), some (.int (iI x1)), l2, l3] [] v Q := by
  refine qv_R (fun hvv => ?_)
  refine qv_g (pc' := 1) (ls' := [some (.ref m), some (.int (iI x1)), l2, l3]) (st' := [.ref m]) dX7_cite_0 (fun _ _ => rfl) ?_
  refine qv_g (pc' := 2) (ls' := [some (.ref m), some (.int (iI x1)), l2, l3]) (st' := [.ref m, .ref m]) dX7_cite_1 (fun _ _ => rfl) ?_
  refine qv_g (pc' := 3) (ls' := [some (.ref m), some (.int (iI x1)), l2, l3]) (st' := [.int (iI x1), .ref m, .ref m]) dX7_cite_2 (fun _ _ => rfl) ?_
  exact qv_call dX7_cite_3 (fun _ _ => ex_calV rfl (by decide)) rfl (Nat.le_of_ble_eq_true rfl) (Nat.le_of_ble_eq_true rfl) (Nat.le_of_ble_eq_true rfl) (fun _ hm => rcv0 rfl rfl (by decide) hm) rfl rfl rfl h
theorem v100_6 {v : VS} {Q : Rs → VS → Prop} {x1 : Int} {l2 : Option Value} {l3 : Option Value} {u0 : Int}
    (h : (¬ u0 = 0 → (¬ v 8 0 = 60 → RW g C S m A 100 27 [some (.ref m), some (.int (iI x1)), l2, l3] [.int (iI 0), .ref m] v Q) ∧ (v 8 0 = 60 → RW g C S m A 100 27 [some (.ref m), some (.int (iI x1)), l2, l3] [.int (iI 2), .ref m] v Q)) ∧ (u0 = 0 → RW g C S m A 100 27 [some (.ref m), some (.int (iI x1)), l2, l3] [.int (iI 1), .ref m] v Q)) (hx1 : (-2147483648 : Int) ≤ x1 ∧ x1 ≤ 2147483647 := by omega) (hu0 : (-2147483648 : Int) ≤ u0 ∧ u0 ≤ 2147483647 := by omega) :
    RW g C S m A 100 6 [some (.ref m), some (.int (iI x1)), l2, l3] [.int (iI u0), .ref m] v Q := by
  refine qv_R (fun hvv => ?_)
  obtain ⟨h1, h2⟩ := h
  refine qv_if (t := 13) dX7_cite_6 (by decide) (d_ne hu0 (by decide)) (fun c => ?_) (fun c => ?_)
  · have h := h1 c
    refine qv_g (pc' := 14) (ls' := [some (.ref m), some (.int (iI x1)), l2, l3]) (st' := [.ref m, .ref m]) dX7_cite_13 (fun _ _ => rfl) ?_
    refine qv_getI dX7_cite_14 rfl rfl rfl ?_
    refine qv_bi dX7_cite_17 (by decide) ?_
    obtain ⟨h1, h2⟩ := h
    refine qv_icmp (t := 26) dX7_cite_19 (by decide) (d_ne (hvv _ _) (by decide)) (fun c => ?_) (fun c => ?_)
    · have h := h1 c
      refine qv_ic dX7_cite_26 ?_
      exact h
    · have h := h2 (Decidable.of_not_not c)
      refine qv_ic dX7_cite_22 ?_
      refine qv_goto (t := 27) dX7_cite_23 (by decide) ?_
      exact h
  · have h := h2 (Decidable.of_not_not c)
    refine qv_ic dX7_cite_9 ?_
    refine qv_goto (t := 27) dX7_cite_10 (by decide) ?_
    exact h
theorem v100_27 {v : VS} {Q : Rs → VS → Prop} {x1 : Int} {l2 : Option Value} {l3 : Option Value} {u0 : Int}
    (h : (∀ w1, w1 = uv v 0 0 u0 → (w1 0 0 ≤ 0 → ((-2147483648 : Int) ≤ (w1 8 0) + 1 ∧ (w1 8 0) + 1 ≤ 2147483647) ∧ (∀ w3, w3 = uv w1 8 0 ((w1 8 0) + 1) → RW g C S m A 100 53 [some (.ref m), some (.int (iI x1)), some (.int (iI 0)), some (.int (iI 0))] [] w3 Q)) ∧ (0 < w1 0 0 → Q (Sum.inl (some (.int (iI 0)))) w1))) (hx1 : (-2147483648 : Int) ≤ x1 ∧ x1 ≤ 2147483647 := by omega) (hu0 : (-2147483648 : Int) ≤ u0 ∧ u0 ≤ 2147483647 := by omega) :
    RW g C S m A 100 27 [some (.ref m), some (.int (iI x1)), l2, l3] [.int (iI u0), .ref m] v Q := by
  refine qv_R (fun hvv => ?_)
  refine qv_putI dX7_cite_27 rfl rfl (Or.inl rfl) rfl (Or.inl rfl) hu0 ?_
  generalize ew1 : uv v 0 0 u0 = w1
  replace h := h _ ew1.symm
  refine qv_R (fun hvw1 => ?_)
  refine qv_g (pc' := 31) (ls' := [some (.ref m), some (.int (iI x1)), l2, l3]) (st' := [.ref m]) dX7_cite_30 (fun _ _ => rfl) ?_
  refine qv_getI dX7_cite_31 rfl rfl rfl ?_
  obtain ⟨h1, h2⟩ := h
  refine qv_if (t := 39) dX7_cite_34 (by decide) (d_le (hvw1 _ _) (by decide)) (fun c => ?_) (fun c => ?_)
  · have h := h1 c
    refine qv_g (pc' := 40) (ls' := [some (.ref m), some (.int (iI x1)), l2, l3]) (st' := [.ref m]) dX7_cite_39 (fun _ _ => rfl) ?_
    refine qv_g (pc' := 41) (ls' := [some (.ref m), some (.int (iI x1)), l2, l3]) (st' := [.ref m, .ref m]) dX7_cite_40 (fun _ _ => rfl) ?_
    refine qv_getI dX7_cite_41 rfl rfl rfl ?_
    refine qv_ic dX7_cite_44 ?_
    obtain ⟨hr2, h⟩ := h
    refine qv_add dX7_cite_45 ?_
    refine qv_putI dX7_cite_46 rfl rfl (Or.inl rfl) rfl (Or.inl rfl) hr2 ?_
    generalize ew3 : uv w1 8 0 ((w1 8 0) + 1) = w3
    replace h := h _ ew3.symm
    refine qv_R (fun hvw3 => ?_)
    refine qv_ic dX7_cite_49 ?_
    refine qv_g (pc' := 51) (ls' := [some (.ref m), some (.int (iI x1)), some (.int (iI 0)), l3]) (st' := []) dX7_cite_50 (fun _ _ => rfl) ?_
    refine qv_ic dX7_cite_51 ?_
    refine qv_g (pc' := 53) (ls' := [some (.ref m), some (.int (iI x1)), some (.int (iI 0)), some (.int (iI 0))]) (st' := []) dX7_cite_52 (fun _ _ => rfl) ?_
    exact h
  · have h := h2 (Int.not_le.mp c)
    refine qv_ic dX7_cite_37 ?_
    exact qv_ret dX7_cite_38 rfl h
theorem v100_53 {v : VS} {Q : Rs → VS → Prop} {x1 : Int} {x2 : Int} {x3 : Int}
    (h : (v 9 0 ≤ x3 → (¬ x2 = 0 → RW g C S m A 100 111 [some (.ref m), some (.int (iI x1)), some (.int (iI x2)), some (.int (iI x3))] [] v Q) ∧ (x2 = 0 → ((0 : Int) ≤ v 9 0 ∧ (v 9 0 : Int) < 24) ∧ (∀ w2, w2 = uv v 10 (v 9 0) x1 → ((-2147483648 : Int) ≤ (w2 9 0) + 1 ∧ (w2 9 0) + 1 ≤ 2147483647) ∧ (∀ w4, w4 = uv w2 9 0 ((w2 9 0) + 1) → RW g C S m A 100 111 [some (.ref m), some (.int (iI x1)), some (.int (iI x2)), some (.int (iI x3))] [] w4 Q)))) ∧ (x3 < v 9 0 → (¬ x2 = 0 → RW g C S m A 100 75 [some (.ref m), some (.int (iI x1)), some (.int (iI x2)), some (.int (iI x3))] [] v Q) ∧ (x2 = 0 → ((0 : Int) ≤ x3 ∧ (x3 : Int) < 24) ∧ (¬ v 10 x3 = x1 → RW g C S m A 100 80 [some (.ref m), some (.int (iI x1)), some (.int (iI x2)), some (.int (iI x3))] [.int (iI 0)] v Q) ∧ (v 10 x3 = x1 → RW g C S m A 100 75 [some (.ref m), some (.int (iI x1)), some (.int (iI x2)), some (.int (iI x3))] [] v Q)))) (hx1 : (-2147483648 : Int) ≤ x1 ∧ x1 ≤ 2147483647 := by omega) (hx2 : (-2147483648 : Int) ≤ x2 ∧ x2 ≤ 2147483647 := by omega) (hx3 : (-2147483648 : Int) ≤ x3 ∧ x3 ≤ 2147483647 := by omega) :
    RW g C S m A 100 53 [some (.ref m), some (.int (iI x1)), some (.int (iI x2)), some (.int (iI x3))] [] v Q := by
  refine qv_R (fun hvv => ?_)
  refine qv_g (pc' := 54) (ls' := [some (.ref m), some (.int (iI x1)), some (.int (iI x2)), some (.int (iI x3))]) (st' := [.int (iI x3)]) dX7_cite_53 (fun _ _ => rfl) ?_
  refine qv_g (pc' := 55) (ls' := [some (.ref m), some (.int (iI x1)), some (.int (iI x2)), some (.int (iI x3))]) (st' := [.ref m, .int (iI x3)]) dX7_cite_54 (fun _ _ => rfl) ?_
  refine qv_getI dX7_cite_55 rfl rfl rfl ?_
  obtain ⟨h1, h2⟩ := h
  refine qv_icmp (t := 87) dX7_cite_58 (by decide) (d_ge hx3 (hvv _ _)) (fun c => ?_) (fun c => ?_)
  · have h := h1 c
    refine qv_g (pc' := 88) (ls' := [some (.ref m), some (.int (iI x1)), some (.int (iI x2)), some (.int (iI x3))]) (st' := [.int (iI x2)]) dX7_cite_87 (fun _ _ => rfl) ?_
    obtain ⟨h1, h2⟩ := h
    refine qv_if (t := 111) dX7_cite_88 (by decide) (d_ne hx2 (by decide)) (fun c => ?_) (fun c => ?_)
    · have h := h1 c
      exact h
    · have h := h2 (Decidable.of_not_not c)
      refine qv_g (pc' := 92) (ls' := [some (.ref m), some (.int (iI x1)), some (.int (iI x2)), some (.int (iI x3))]) (st' := [.ref m]) dX7_cite_91 (fun _ _ => rfl) ?_
      refine qv_getA dX7_cite_92 rfl rfl (by decide) ?_
      refine qv_g (pc' := 96) (ls' := [some (.ref m), some (.int (iI x1)), some (.int (iI x2)), some (.int (iI x3))]) (st' := [.ref m, .ref (A 10)]) dX7_cite_95 (fun _ _ => rfl) ?_
      refine qv_getI dX7_cite_96 rfl rfl rfl ?_
      refine qv_g (pc' := 100) (ls' := [some (.ref m), some (.int (iI x1)), some (.int (iI x2)), some (.int (iI x3))]) (st' := [.int (iI x1), .int (iI (v 9 0)), .ref (A 10)]) dX7_cite_99 (fun _ _ => rfl) ?_
      obtain ⟨hr1, h⟩ := h
      refine qv_iast dX7_cite_100 (by decide) hr1 (by decide) hx1 ?_
      generalize ew2 : uv v 10 (v 9 0) x1 = w2
      replace h := h _ ew2.symm
      refine qv_R (fun hvw2 => ?_)
      refine qv_g (pc' := 102) (ls' := [some (.ref m), some (.int (iI x1)), some (.int (iI x2)), some (.int (iI x3))]) (st' := [.ref m]) dX7_cite_101 (fun _ _ => rfl) ?_
      refine qv_g (pc' := 103) (ls' := [some (.ref m), some (.int (iI x1)), some (.int (iI x2)), some (.int (iI x3))]) (st' := [.ref m, .ref m]) dX7_cite_102 (fun _ _ => rfl) ?_
      refine qv_getI dX7_cite_103 rfl rfl rfl ?_
      refine qv_ic dX7_cite_106 ?_
      obtain ⟨hr3, h⟩ := h
      refine qv_add dX7_cite_107 ?_
      refine qv_putI dX7_cite_108 rfl rfl (Or.inl rfl) rfl (Or.inl rfl) hr3 ?_
      generalize ew4 : uv w2 9 0 ((w2 9 0) + 1) = w4
      replace h := h _ ew4.symm
      refine qv_R (fun hvw4 => ?_)
      exact h
  · have h := h2 (Int.not_le.mp c)
    refine qv_g (pc' := 62) (ls' := [some (.ref m), some (.int (iI x1)), some (.int (iI x2)), some (.int (iI x3))]) (st' := [.int (iI x2)]) dX7_cite_61 (fun _ _ => rfl) ?_
    obtain ⟨h1, h2⟩ := h
    refine qv_if (t := 75) dX7_cite_62 (by decide) (d_ne hx2 (by decide)) (fun c => ?_) (fun c => ?_)
    · have h := h1 c
      exact h
    · have h := h2 (Decidable.of_not_not c)
      refine qv_g (pc' := 66) (ls' := [some (.ref m), some (.int (iI x1)), some (.int (iI x2)), some (.int (iI x3))]) (st' := [.ref m]) dX7_cite_65 (fun _ _ => rfl) ?_
      refine qv_getA dX7_cite_66 rfl rfl (by decide) ?_
      refine qv_g (pc' := 70) (ls' := [some (.ref m), some (.int (iI x1)), some (.int (iI x2)), some (.int (iI x3))]) (st' := [.int (iI x3), .ref (A 10)]) dX7_cite_69 (fun _ _ => rfl) ?_
      obtain ⟨hr5, h⟩ := h
      refine qv_iald dX7_cite_70 (by decide) hr5 (by decide) ?_
      refine qv_g (pc' := 72) (ls' := [some (.ref m), some (.int (iI x1)), some (.int (iI x2)), some (.int (iI x3))]) (st' := [.int (iI x1), .int (iI (v 10 x3))]) dX7_cite_71 (fun _ _ => rfl) ?_
      obtain ⟨h1, h2⟩ := h
      refine qv_icmp (t := 79) dX7_cite_72 (by decide) (d_ne (hvv _ _) hx1) (fun c => ?_) (fun c => ?_)
      · have h := h1 c
        refine qv_ic dX7_cite_79 ?_
        exact h
      · have h := h2 (Decidable.of_not_not c)
        exact h
theorem v100_75 {v : VS} {Q : Rs → VS → Prop} {x1 : Int} {l2 : Option Value} {x3 : Int}
    (h : RW g C S m A 100 80 [some (.ref m), some (.int (iI x1)), l2, some (.int (iI x3))] [.int (iI 1)] v Q) (hx1 : (-2147483648 : Int) ≤ x1 ∧ x1 ≤ 2147483647 := by omega) (hx3 : (-2147483648 : Int) ≤ x3 ∧ x3 ≤ 2147483647 := by omega) :
    RW g C S m A 100 75 [some (.ref m), some (.int (iI x1)), l2, some (.int (iI x3))] [] v Q := by
  refine qv_R (fun hvv => ?_)
  refine qv_ic dX7_cite_75 ?_
  refine qv_goto (t := 80) dX7_cite_76 (by decide) ?_
  exact h
theorem v100_80 {v : VS} {Q : Rs → VS → Prop} {x1 : Int} {l2 : Option Value} {x3 : Int} {u0 : Int}
    (h : ((-2147483648 : Int) ≤ x3 + 1 ∧ x3 + 1 ≤ 2147483647) ∧ RW g C S m A 100 53 [some (.ref m), some (.int (iI x1)), some (.int (iI u0)), some (.int (iI (x3 + 1)))] [] v Q) (hx1 : (-2147483648 : Int) ≤ x1 ∧ x1 ≤ 2147483647 := by omega) (hx3 : (-2147483648 : Int) ≤ x3 ∧ x3 ≤ 2147483647 := by omega) (hu0 : (-2147483648 : Int) ≤ u0 ∧ u0 ≤ 2147483647 := by omega) :
    RW g C S m A 100 80 [some (.ref m), some (.int (iI x1)), l2, some (.int (iI x3))] [.int (iI u0)] v Q := by
  refine qv_R (fun hvv => ?_)
  refine qv_g (pc' := 81) (ls' := [some (.ref m), some (.int (iI x1)), some (.int (iI u0)), some (.int (iI x3))]) (st' := []) dX7_cite_80 (fun _ _ => rfl) ?_
  obtain ⟨hr1, h⟩ := h
  refine qv_inc (ls' := [some (.ref m), some (.int (iI x1)), some (.int (iI u0)), some (.int (iI (x3 + 1)))]) dX7_cite_81 rfl (Nat.le_of_ble_eq_true rfl) rfl ?_
  refine qv_goto (t := 53) dX7_cite_84 (by decide) ?_
  exact h
theorem v100_111 {v : VS} {Q : Rs → VS → Prop} {l1 : Option Value} {l2 : Option Value} {l3 : Option Value}
    (h : Q (Sum.inl (some (.int (iI (v 8 0))))) v)  :
    RW g C S m A 100 111 [some (.ref m), l1, l2, l3] [] v Q := by
  refine qv_R (fun hvv => ?_)
  refine qv_g (pc' := 112) (ls' := [some (.ref m), l1, l2, l3]) (st' := [.ref m]) dX7_cite_111 (fun _ _ => rfl) ?_
  refine qv_getI dX7_cite_112 rfl rfl rfl ?_
  exact qv_ret dX7_cite_115 rfl h
theorem v101_0 {v : VS} {Q : Rs → VS → Prop} {x1 : Int} {x2 : Int} {l3 : Option Value}
    (h : RW g C S m A 93 0 [some (.ref m), some (.int (iI x1))] [] v (VK g C S m A 101 6 [some (.ref m), some (.int (iI x1)), some (.int (iI x2)), l3] [.ref m] Q)) (hx1 : (-2147483648 : Int) ≤ x1 ∧ x1 ≤ 2147483647 := by omega) (hx2 : (-2147483648 : Int) ≤ x2 ∧ x2 ≤ 2147483647 := by omega) :
    RW g C S m A 101 0 [some (.ref m), some (.int (iI x1)), some (.int (iI x2)), l3] [] v Q := by
  refine qv_R (fun hvv => ?_)
  refine qv_g (pc' := 1) (ls' := [some (.ref m), some (.int (iI x1)), some (.int (iI x2)), l3]) (st' := [.ref m]) dX7_cross_0 (fun _ _ => rfl) ?_
  refine qv_g (pc' := 2) (ls' := [some (.ref m), some (.int (iI x1)), some (.int (iI x2)), l3]) (st' := [.ref m, .ref m]) dX7_cross_1 (fun _ _ => rfl) ?_
  refine qv_g (pc' := 3) (ls' := [some (.ref m), some (.int (iI x1)), some (.int (iI x2)), l3]) (st' := [.int (iI x1), .ref m, .ref m]) dX7_cross_2 (fun _ _ => rfl) ?_
  exact qv_call dX7_cross_3 (fun _ _ => ex_calV rfl (by decide)) rfl (Nat.le_of_ble_eq_true rfl) (Nat.le_of_ble_eq_true rfl) (Nat.le_of_ble_eq_true rfl) (fun _ hm => rcv0 rfl rfl (by decide) hm) rfl rfl rfl h
theorem v101_6 {v : VS} {Q : Rs → VS → Prop} {x1 : Int} {x2 : Int} {l3 : Option Value} {u0 : Int}
    (h : (u0 = 0 → RW g C S m A 101 21 [some (.ref m), some (.int (iI x1)), some (.int (iI x2)), l3] [.ref m] v Q) ∧ (¬ u0 = 0 → RW g C S m A 93 0 [some (.ref m), some (.int (iI x2))] [] v (VK g C S m A 101 14 [some (.ref m), some (.int (iI x1)), some (.int (iI x2)), l3] [.ref m] Q))) (hx1 : (-2147483648 : Int) ≤ x1 ∧ x1 ≤ 2147483647 := by omega) (hx2 : (-2147483648 : Int) ≤ x2 ∧ x2 ≤ 2147483647 := by omega) (hu0 : (-2147483648 : Int) ≤ u0 ∧ u0 ≤ 2147483647 := by omega) :
    RW g C S m A 101 6 [some (.ref m), some (.int (iI x1)), some (.int (iI x2)), l3] [.int (iI u0), .ref m] v Q := by
  refine qv_R (fun hvv => ?_)
  obtain ⟨h1, h2⟩ := h
  refine qv_if (t := 21) dX7_cross_6 (by decide) (d_eq hu0 (by decide)) (fun c => ?_) (fun c => ?_)
  · have h := h1 c
    exact h
  · have h := h2 c
    refine qv_g (pc' := 10) (ls' := [some (.ref m), some (.int (iI x1)), some (.int (iI x2)), l3]) (st' := [.ref m, .ref m]) dX7_cross_9 (fun _ _ => rfl) ?_
    refine qv_g (pc' := 11) (ls' := [some (.ref m), some (.int (iI x1)), some (.int (iI x2)), l3]) (st' := [.int (iI x2), .ref m, .ref m]) dX7_cross_10 (fun _ _ => rfl) ?_
    exact qv_call dX7_cross_11 (fun _ _ => ex_calV rfl (by decide)) rfl (Nat.le_of_ble_eq_true rfl) (Nat.le_of_ble_eq_true rfl) (Nat.le_of_ble_eq_true rfl) (fun _ hm => rcv0 rfl rfl (by decide) hm) rfl rfl rfl h
theorem v101_14 {v : VS} {Q : Rs → VS → Prop} {x1 : Int} {x2 : Int} {l3 : Option Value} {u0 : Int}
    (h : (u0 = 0 → RW g C S m A 101 21 [some (.ref m), some (.int (iI x1)), some (.int (iI x2)), l3] [.ref m] v Q) ∧ (¬ u0 = 0 → RW g C S m A 101 22 [some (.ref m), some (.int (iI x1)), some (.int (iI x2)), l3] [.int (iI 0), .ref m] v Q)) (hx1 : (-2147483648 : Int) ≤ x1 ∧ x1 ≤ 2147483647 := by omega) (hx2 : (-2147483648 : Int) ≤ x2 ∧ x2 ≤ 2147483647 := by omega) (hu0 : (-2147483648 : Int) ≤ u0 ∧ u0 ≤ 2147483647 := by omega) :
    RW g C S m A 101 14 [some (.ref m), some (.int (iI x1)), some (.int (iI x2)), l3] [.int (iI u0), .ref m] v Q := by
  refine qv_R (fun hvv => ?_)
  obtain ⟨h1, h2⟩ := h
  refine qv_if (t := 21) dX7_cross_14 (by decide) (d_eq hu0 (by decide)) (fun c => ?_) (fun c => ?_)
  · have h := h1 c
    exact h
  · have h := h2 c
    refine qv_ic dX7_cross_17 ?_
    refine qv_goto (t := 22) dX7_cross_18 (by decide) ?_
    exact h
theorem v101_21 {v : VS} {Q : Rs → VS → Prop} {x1 : Int} {x2 : Int} {l3 : Option Value}
    (h : RW g C S m A 101 22 [some (.ref m), some (.int (iI x1)), some (.int (iI x2)), l3] [.int (iI 1), .ref m] v Q) (hx1 : (-2147483648 : Int) ≤ x1 ∧ x1 ≤ 2147483647 := by omega) (hx2 : (-2147483648 : Int) ≤ x2 ∧ x2 ≤ 2147483647 := by omega) :
    RW g C S m A 101 21 [some (.ref m), some (.int (iI x1)), some (.int (iI x2)), l3] [.ref m] v Q := by
  refine qv_R (fun hvv => ?_)
  refine qv_ic dX7_cross_21 ?_
  exact h
theorem v101_22 {v : VS} {Q : Rs → VS → Prop} {x1 : Int} {x2 : Int} {l3 : Option Value} {u0 : Int}
    (h : (∀ w1, w1 = uv v 0 0 u0 → (w1 0 0 ≤ 0 → RW g C S m A 101 36 [some (.ref m), some (.int (iI x1)), some (.int (iI x2)), some (.int (iI x2))] [] w1 Q) ∧ (0 < w1 0 0 → Q (Sum.inl (some (.int (iI 0)))) w1))) (hx1 : (-2147483648 : Int) ≤ x1 ∧ x1 ≤ 2147483647 := by omega) (hx2 : (-2147483648 : Int) ≤ x2 ∧ x2 ≤ 2147483647 := by omega) (hu0 : (-2147483648 : Int) ≤ u0 ∧ u0 ≤ 2147483647 := by omega) :
    RW g C S m A 101 22 [some (.ref m), some (.int (iI x1)), some (.int (iI x2)), l3] [.int (iI u0), .ref m] v Q := by
  refine qv_R (fun hvv => ?_)
  refine qv_putI dX7_cross_22 rfl rfl (Or.inl rfl) rfl (Or.inl rfl) hu0 ?_
  generalize ew1 : uv v 0 0 u0 = w1
  replace h := h _ ew1.symm
  refine qv_R (fun hvw1 => ?_)
  refine qv_g (pc' := 26) (ls' := [some (.ref m), some (.int (iI x1)), some (.int (iI x2)), l3]) (st' := [.ref m]) dX7_cross_25 (fun _ _ => rfl) ?_
  refine qv_getI dX7_cross_26 rfl rfl rfl ?_
  obtain ⟨h1, h2⟩ := h
  refine qv_if (t := 34) dX7_cross_29 (by decide) (d_le (hvw1 _ _) (by decide)) (fun c => ?_) (fun c => ?_)
  · have h := h1 c
    refine qv_g (pc' := 35) (ls' := [some (.ref m), some (.int (iI x1)), some (.int (iI x2)), l3]) (st' := [.int (iI x2)]) dX7_cross_34 (fun _ _ => rfl) ?_
    refine qv_g (pc' := 36) (ls' := [some (.ref m), some (.int (iI x1)), some (.int (iI x2)), some (.int (iI x2))]) (st' := []) dX7_cross_35 (fun _ _ => rfl) ?_
    exact h
  · have h := h2 (Int.not_le.mp c)
    refine qv_ic dX7_cross_32 ?_
    exact qv_ret dX7_cross_33 rfl h
theorem v101_36 {v : VS} {Q : Rs → VS → Prop} {x1 : Int} {x2 : Int} {x3 : Int}
    (h : (x3 = (-1) → ((0 : Int) ≤ x1 ∧ (x1 : Int) < 24) ∧ (∀ w2, w2 = uv v 7 x1 x2 → Q (Sum.inl (some (.int (iI 1)))) w2)) ∧ (¬ x3 = (-1) → (¬ x3 = x1 → ((0 : Int) ≤ x3 ∧ (x3 : Int) < 24) ∧ RW g C S m A 101 36 [some (.ref m), some (.int (iI x1)), some (.int (iI x2)), some (.int (iI (v 7 x3)))] [] v Q) ∧ (x3 = x1 → Q (Sum.inl (some (.int (iI 0)))) v))) (hx1 : (-2147483648 : Int) ≤ x1 ∧ x1 ≤ 2147483647 := by omega) (hx2 : (-2147483648 : Int) ≤ x2 ∧ x2 ≤ 2147483647 := by omega) (hx3 : (-2147483648 : Int) ≤ x3 ∧ x3 ≤ 2147483647 := by omega) :
    RW g C S m A 101 36 [some (.ref m), some (.int (iI x1)), some (.int (iI x2)), some (.int (iI x3))] [] v Q := by
  refine qv_R (fun hvv => ?_)
  refine qv_g (pc' := 37) (ls' := [some (.ref m), some (.int (iI x1)), some (.int (iI x2)), some (.int (iI x3))]) (st' := [.int (iI x3)]) dX7_cross_36 (fun _ _ => rfl) ?_
  refine qv_ic dX7_cross_37 ?_
  obtain ⟨h1, h2⟩ := h
  refine qv_icmp (t := 58) dX7_cross_38 (by decide) (d_eq hx3 (by decide)) (fun c => ?_) (fun c => ?_)
  · have h := h1 c
    refine qv_g (pc' := 59) (ls' := [some (.ref m), some (.int (iI x1)), some (.int (iI x2)), some (.int (iI x3))]) (st' := [.ref m]) dX7_cross_58 (fun _ _ => rfl) ?_
    refine qv_getA dX7_cross_59 rfl rfl (by decide) ?_
    refine qv_g (pc' := 63) (ls' := [some (.ref m), some (.int (iI x1)), some (.int (iI x2)), some (.int (iI x3))]) (st' := [.int (iI x1), .ref (A 7)]) dX7_cross_62 (fun _ _ => rfl) ?_
    refine qv_g (pc' := 64) (ls' := [some (.ref m), some (.int (iI x1)), some (.int (iI x2)), some (.int (iI x3))]) (st' := [.int (iI x2), .int (iI x1), .ref (A 7)]) dX7_cross_63 (fun _ _ => rfl) ?_
    obtain ⟨hr1, h⟩ := h
    refine qv_iast dX7_cross_64 (by decide) hr1 (by decide) hx2 ?_
    generalize ew2 : uv v 7 x1 x2 = w2
    replace h := h _ ew2.symm
    refine qv_R (fun hvw2 => ?_)
    refine qv_ic dX7_cross_65 ?_
    exact qv_ret dX7_cross_66 rfl h
  · have h := h2 c
    refine qv_g (pc' := 42) (ls' := [some (.ref m), some (.int (iI x1)), some (.int (iI x2)), some (.int (iI x3))]) (st' := [.int (iI x3)]) dX7_cross_41 (fun _ _ => rfl) ?_
    refine qv_g (pc' := 43) (ls' := [some (.ref m), some (.int (iI x1)), some (.int (iI x2)), some (.int (iI x3))]) (st' := [.int (iI x1), .int (iI x3)]) dX7_cross_42 (fun _ _ => rfl) ?_
    obtain ⟨h1, h2⟩ := h
    refine qv_icmp (t := 48) dX7_cross_43 (by decide) (d_ne hx3 hx1) (fun c => ?_) (fun c => ?_)
    · have h := h1 c
      refine qv_g (pc' := 49) (ls' := [some (.ref m), some (.int (iI x1)), some (.int (iI x2)), some (.int (iI x3))]) (st' := [.ref m]) dX7_cross_48 (fun _ _ => rfl) ?_
      refine qv_getA dX7_cross_49 rfl rfl (by decide) ?_
      refine qv_g (pc' := 53) (ls' := [some (.ref m), some (.int (iI x1)), some (.int (iI x2)), some (.int (iI x3))]) (st' := [.int (iI x3), .ref (A 7)]) dX7_cross_52 (fun _ _ => rfl) ?_
      obtain ⟨hr3, h⟩ := h
      refine qv_iald dX7_cross_53 (by decide) hr3 (by decide) ?_
      refine qv_g (pc' := 55) (ls' := [some (.ref m), some (.int (iI x1)), some (.int (iI x2)), some (.int (iI (v 7 x3)))]) (st' := []) dX7_cross_54 (fun _ _ => rfl) ?_
      refine qv_goto (t := 36) dX7_cross_55 (by decide) ?_
      exact h
    · have h := h2 (Decidable.of_not_not c)
      refine qv_ic dX7_cross_46 ?_
      exact qv_ret dX7_cross_47 rfl h
theorem v102_0 {v : VS} {Q : Rs → VS → Prop} {x1 : Int} {x2 : Int} {l3 : Option Value}
    (h : (x1 < 0 → RW g C S m A 102 19 [some (.ref m), some (.int (iI x1)), some (.int (iI x2)), l3] [.ref m] v Q) ∧ (0 ≤ x1 → (2 < x1 → RW g C S m A 102 19 [some (.ref m), some (.int (iI x1)), some (.int (iI x2)), l3] [.ref m] v Q) ∧ (x1 ≤ 2 → (x2 < 0 → RW g C S m A 102 19 [some (.ref m), some (.int (iI x1)), some (.int (iI x2)), l3] [.ref m] v Q) ∧ (0 ≤ x2 → (x2 ≤ 2 → RW g C S m A 102 24 [some (.ref m), some (.int (iI x1)), some (.int (iI x2)), l3] [.int (iI 0), .ref m] v Q) ∧ (2 < x2 → RW g C S m A 102 19 [some (.ref m), some (.int (iI x1)), some (.int (iI x2)), l3] [.ref m] v Q))))) (hx1 : (-2147483648 : Int) ≤ x1 ∧ x1 ≤ 2147483647 := by omega) (hx2 : (-2147483648 : Int) ≤ x2 ∧ x2 ≤ 2147483647 := by omega) :
    RW g C S m A 102 0 [some (.ref m), some (.int (iI x1)), some (.int (iI x2)), l3] [] v Q := by
  refine qv_R (fun hvv => ?_)
  refine qv_g (pc' := 1) (ls' := [some (.ref m), some (.int (iI x1)), some (.int (iI x2)), l3]) (st' := [.ref m]) dX7_style_0 (fun _ _ => rfl) ?_
  refine qv_g (pc' := 2) (ls' := [some (.ref m), some (.int (iI x1)), some (.int (iI x2)), l3]) (st' := [.int (iI x1), .ref m]) dX7_style_1 (fun _ _ => rfl) ?_
  obtain ⟨h1, h2⟩ := h
  refine qv_if (t := 19) dX7_style_2 (by decide) (d_lt hx1 (by decide)) (fun c => ?_) (fun c => ?_)
  · have h := h1 c
    exact h
  · have h := h2 (Int.not_lt.mp c)
    refine qv_g (pc' := 6) (ls' := [some (.ref m), some (.int (iI x1)), some (.int (iI x2)), l3]) (st' := [.int (iI x1), .ref m]) dX7_style_5 (fun _ _ => rfl) ?_
    refine qv_ic dX7_style_6 ?_
    obtain ⟨h1, h2⟩ := h
    refine qv_icmp (t := 19) dX7_style_7 (by decide) (d_gt hx1 (by decide)) (fun c => ?_) (fun c => ?_)
    · have h := h1 c
      exact h
    · have h := h2 (Int.not_lt.mp c)
      refine qv_g (pc' := 11) (ls' := [some (.ref m), some (.int (iI x1)), some (.int (iI x2)), l3]) (st' := [.int (iI x2), .ref m]) dX7_style_10 (fun _ _ => rfl) ?_
      obtain ⟨h1, h2⟩ := h
      refine qv_if (t := 19) dX7_style_11 (by decide) (d_lt hx2 (by decide)) (fun c => ?_) (fun c => ?_)
      · have h := h1 c
        exact h
      · have h := h2 (Int.not_lt.mp c)
        refine qv_g (pc' := 15) (ls' := [some (.ref m), some (.int (iI x1)), some (.int (iI x2)), l3]) (st' := [.int (iI x2), .ref m]) dX7_style_14 (fun _ _ => rfl) ?_
        refine qv_ic dX7_style_15 ?_
        obtain ⟨h1, h2⟩ := h
        refine qv_icmp (t := 23) dX7_style_16 (by decide) (d_le hx2 (by decide)) (fun c => ?_) (fun c => ?_)
        · have h := h1 c
          refine qv_ic dX7_style_23 ?_
          exact h
        · have h := h2 (Int.not_le.mp c)
          exact h
theorem v102_19 {v : VS} {Q : Rs → VS → Prop} {x1 : Int} {x2 : Int} {l3 : Option Value}
    (h : RW g C S m A 102 24 [some (.ref m), some (.int (iI x1)), some (.int (iI x2)), l3] [.int (iI 1), .ref m] v Q) (hx1 : (-2147483648 : Int) ≤ x1 ∧ x1 ≤ 2147483647 := by omega) (hx2 : (-2147483648 : Int) ≤ x2 ∧ x2 ≤ 2147483647 := by omega) :
    RW g C S m A 102 19 [some (.ref m), some (.int (iI x1)), some (.int (iI x2)), l3] [.ref m] v Q := by
  refine qv_R (fun hvv => ?_)
  refine qv_ic dX7_style_19 ?_
  refine qv_goto (t := 24) dX7_style_20 (by decide) ?_
  exact h
theorem v102_24 {v : VS} {Q : Rs → VS → Prop} {x1 : Int} {x2 : Int} {l3 : Option Value} {u0 : Int}
    (h : (∀ w1, w1 = uv v 0 0 u0 → (w1 0 0 ≤ 0 → ((-2147483648 : Int) ≤ 10 * (w1 11 0) ∧ 10 * (w1 11 0) ≤ 2147483647) ∧ ((-2147483648 : Int) ≤ (10 * (w1 11 0)) + (w1 12 0) ∧ (10 * (w1 11 0)) + (w1 12 0) ≤ 2147483647) ∧ (∀ w4, w4 = uv w1 11 0 x1 → (∀ w5, w5 = uv w4 12 0 x2 → Q (Sum.inl (some (.int (iI ((10 * (w1 11 0)) + (w1 12 0)))))) w5))) ∧ (0 < w1 0 0 → Q (Sum.inl (some (.int (iI 0)))) w1))) (hx1 : (-2147483648 : Int) ≤ x1 ∧ x1 ≤ 2147483647 := by omega) (hx2 : (-2147483648 : Int) ≤ x2 ∧ x2 ≤ 2147483647 := by omega) (hu0 : (-2147483648 : Int) ≤ u0 ∧ u0 ≤ 2147483647 := by omega) :
    RW g C S m A 102 24 [some (.ref m), some (.int (iI x1)), some (.int (iI x2)), l3] [.int (iI u0), .ref m] v Q := by
  refine qv_R (fun hvv => ?_)
  refine qv_putI dX7_style_24 rfl rfl (Or.inl rfl) rfl (Or.inl rfl) hu0 ?_
  generalize ew1 : uv v 0 0 u0 = w1
  replace h := h _ ew1.symm
  refine qv_R (fun hvw1 => ?_)
  refine qv_g (pc' := 28) (ls' := [some (.ref m), some (.int (iI x1)), some (.int (iI x2)), l3]) (st' := [.ref m]) dX7_style_27 (fun _ _ => rfl) ?_
  refine qv_getI dX7_style_28 rfl rfl rfl ?_
  obtain ⟨h1, h2⟩ := h
  refine qv_if (t := 36) dX7_style_31 (by decide) (d_le (hvw1 _ _) (by decide)) (fun c => ?_) (fun c => ?_)
  · have h := h1 c
    refine qv_bi dX7_style_36 (by decide) ?_
    refine qv_g (pc' := 39) (ls' := [some (.ref m), some (.int (iI x1)), some (.int (iI x2)), l3]) (st' := [.ref m, .int (iI 10)]) dX7_style_38 (fun _ _ => rfl) ?_
    refine qv_getI dX7_style_39 rfl rfl rfl ?_
    obtain ⟨hr2, h⟩ := h
    refine qv_mul dX7_style_42 ?_
    refine qv_g (pc' := 44) (ls' := [some (.ref m), some (.int (iI x1)), some (.int (iI x2)), l3]) (st' := [.ref m, .int (iI (10 * (w1 11 0)))]) dX7_style_43 (fun _ _ => rfl) ?_
    refine qv_getI dX7_style_44 rfl rfl rfl ?_
    obtain ⟨hr3, h⟩ := h
    refine qv_add dX7_style_47 ?_
    refine qv_g (pc' := 49) (ls' := [some (.ref m), some (.int (iI x1)), some (.int (iI x2)), some (.int (iI ((10 * (w1 11 0)) + (w1 12 0))))]) (st' := []) dX7_style_48 (fun _ _ => rfl) ?_
    refine qv_g (pc' := 50) (ls' := [some (.ref m), some (.int (iI x1)), some (.int (iI x2)), some (.int (iI ((10 * (w1 11 0)) + (w1 12 0))))]) (st' := [.ref m]) dX7_style_49 (fun _ _ => rfl) ?_
    refine qv_g (pc' := 51) (ls' := [some (.ref m), some (.int (iI x1)), some (.int (iI x2)), some (.int (iI ((10 * (w1 11 0)) + (w1 12 0))))]) (st' := [.int (iI x1), .ref m]) dX7_style_50 (fun _ _ => rfl) ?_
    refine qv_putI dX7_style_51 rfl rfl (Or.inl rfl) rfl (Or.inl rfl) hx1 ?_
    generalize ew4 : uv w1 11 0 x1 = w4
    replace h := h _ ew4.symm
    refine qv_R (fun hvw4 => ?_)
    refine qv_g (pc' := 55) (ls' := [some (.ref m), some (.int (iI x1)), some (.int (iI x2)), some (.int (iI ((10 * (w1 11 0)) + (w1 12 0))))]) (st' := [.ref m]) dX7_style_54 (fun _ _ => rfl) ?_
    refine qv_g (pc' := 56) (ls' := [some (.ref m), some (.int (iI x1)), some (.int (iI x2)), some (.int (iI ((10 * (w1 11 0)) + (w1 12 0))))]) (st' := [.int (iI x2), .ref m]) dX7_style_55 (fun _ _ => rfl) ?_
    refine qv_putI dX7_style_56 rfl rfl (Or.inl rfl) rfl (Or.inl rfl) hx2 ?_
    generalize ew5 : uv w4 12 0 x2 = w5
    replace h := h _ ew5.symm
    refine qv_R (fun hvw5 => ?_)
    refine qv_g (pc' := 60) (ls' := [some (.ref m), some (.int (iI x1)), some (.int (iI x2)), some (.int (iI ((10 * (w1 11 0)) + (w1 12 0))))]) (st' := [.int (iI ((10 * (w1 11 0)) + (w1 12 0)))]) dX7_style_59 (fun _ _ => rfl) ?_
    exact qv_ret dX7_style_60 rfl h
  · have h := h2 (Int.not_le.mp c)
    refine qv_ic dX7_style_34 ?_
    exact qv_ret dX7_style_35 rfl h
theorem v103_0 {v : VS} {Q : Rs → VS → Prop} {x1 : Int} {x2 : Int} {l3 : Option Value}
    (h : RW g C S m A 103 2 [some (.ref m), some (.int (iI x1)), some (.int (iI x2)), some (.int (iI x1))] [] v Q) (hx1 : (-2147483648 : Int) ≤ x1 ∧ x1 ≤ 2147483647 := by omega) (hx2 : (-2147483648 : Int) ≤ x2 ∧ x2 ≤ 2147483647 := by omega) :
    RW g C S m A 103 0 [some (.ref m), some (.int (iI x1)), some (.int (iI x2)), l3] [] v Q := by
  refine qv_R (fun hvv => ?_)
  refine qv_g (pc' := 1) (ls' := [some (.ref m), some (.int (iI x1)), some (.int (iI x2)), l3]) (st' := [.int (iI x1)]) dX7_value_0 (fun _ _ => rfl) ?_
  refine qv_g (pc' := 2) (ls' := [some (.ref m), some (.int (iI x1)), some (.int (iI x2)), some (.int (iI x1))]) (st' := []) dX7_value_1 (fun _ _ => rfl) ?_
  exact h
theorem v103_2 {v : VS} {Q : Rs → VS → Prop} {l1 : Option Value} {x2 : Int} {x3 : Int}
    (h : ((-2147483648 : Int) ≤ 8 * x3 ∧ 8 * x3 ≤ 2147483647) ∧ ((-2147483648 : Int) ≤ (8 * x3) + x2 ∧ (8 * x3) + x2 ≤ 2147483647) ∧ ((0 : Int) ≤ (8 * x3) + x2 ∧ ((8 * x3) + x2 : Int) < 192) ∧ (¬ v 5 ((8 * x3) + x2) = 0 → ((-2147483648 : Int) ≤ 8 * x3 ∧ 8 * x3 ≤ 2147483647) ∧ ((-2147483648 : Int) ≤ (8 * x3) + x2 ∧ (8 * x3) + x2 ≤ 2147483647) ∧ Q (Sum.inl (some (.int (iI ((8 * x3) + x2))))) v) ∧ (v 5 ((8 * x3) + x2) = 0 → ((0 : Int) ≤ x3 ∧ (x3 : Int) < 24) ∧ (v 7 x3 = (-1) → RW g C S m A 103 31 [some (.ref m), l1, some (.int (iI x2)), some (.int (iI x3))] [] v Q) ∧ (¬ v 7 x3 = (-1) → (¬ x2 = 1 → ((0 : Int) ≤ x3 ∧ (x3 : Int) < 24) ∧ (¬ x2 = 6 → RW g C S m A 103 2 [some (.ref m), l1, some (.int (iI x2)), some (.int (iI (v 7 x3)))] [] v Q) ∧ (x2 = 6 → ((-2147483648 : Int) ≤ 8 * (v 7 x3) ∧ 8 * (v 7 x3) ≤ 2147483647) ∧ ((-2147483648 : Int) ≤ (8 * (v 7 x3)) + 1 ∧ (8 * (v 7 x3)) + 1 ≤ 2147483647) ∧ ((0 : Int) ≤ (8 * (v 7 x3)) + 1 ∧ ((8 * (v 7 x3)) + 1 : Int) < 192) ∧ (v 5 ((8 * (v 7 x3)) + 1) ≤ 0 → RW g C S m A 103 2 [some (.ref m), l1, some (.int (iI x2)), some (.int (iI (v 7 x3)))] [] v Q) ∧ (0 < v 5 ((8 * (v 7 x3)) + 1) → ((-2147483648 : Int) ≤ 8 * (v 7 x3) ∧ 8 * (v 7 x3) ≤ 2147483647) ∧ ((-2147483648 : Int) ≤ (8 * (v 7 x3)) + 1 ∧ (8 * (v 7 x3)) + 1 ≤ 2147483647) ∧ Q (Sum.inl (some (.int (iI ((8 * (v 7 x3)) + 1))))) v))) ∧ (x2 = 1 → RW g C S m A 103 31 [some (.ref m), l1, some (.int (iI x2)), some (.int (iI x3))] [] v Q)))) (hx2 : (-2147483648 : Int) ≤ x2 ∧ x2 ≤ 2147483647 := by omega) (hx3 : (-2147483648 : Int) ≤ x3 ∧ x3 ≤ 2147483647 := by omega) :
    RW g C S m A 103 2 [some (.ref m), l1, some (.int (iI x2)), some (.int (iI x3))] [] v Q := by
  refine qv_R (fun hvv => ?_)
  refine qv_g (pc' := 3) (ls' := [some (.ref m), l1, some (.int (iI x2)), some (.int (iI x3))]) (st' := [.ref m]) dX7_value_2 (fun _ _ => rfl) ?_
  refine qv_getA dX7_value_3 rfl rfl (by decide) ?_
  refine qv_bi dX7_value_6 (by decide) ?_
  refine qv_g (pc' := 9) (ls' := [some (.ref m), l1, some (.int (iI x2)), some (.int (iI x3))]) (st' := [.int (iI x3), .int (iI 8), .ref (A 5)]) dX7_value_8 (fun _ _ => rfl) ?_
  obtain ⟨hr1, h⟩ := h
  refine qv_mul dX7_value_9 ?_
  refine qv_g (pc' := 11) (ls' := [some (.ref m), l1, some (.int (iI x2)), some (.int (iI x3))]) (st' := [.int (iI x2), .int (iI (8 * x3)), .ref (A 5)]) dX7_value_10 (fun _ _ => rfl) ?_
  obtain ⟨hr2, h⟩ := h
  refine qv_add dX7_value_11 ?_
  obtain ⟨hr3, h⟩ := h
  refine qv_iald dX7_value_12 (by decide) hr3 (by decide) ?_
  obtain ⟨h1, h2⟩ := h
  refine qv_if (t := 67) dX7_value_13 (by decide) (d_ne (hvv _ _) (by decide)) (fun c => ?_) (fun c => ?_)
  · have h := h1 c
    refine qv_bi dX7_value_67 (by decide) ?_
    refine qv_g (pc' := 70) (ls' := [some (.ref m), l1, some (.int (iI x2)), some (.int (iI x3))]) (st' := [.int (iI x3), .int (iI 8)]) dX7_value_69 (fun _ _ => rfl) ?_
    obtain ⟨hr4, h⟩ := h
    refine qv_mul dX7_value_70 ?_
    refine qv_g (pc' := 72) (ls' := [some (.ref m), l1, some (.int (iI x2)), some (.int (iI x3))]) (st' := [.int (iI x2), .int (iI (8 * x3))]) dX7_value_71 (fun _ _ => rfl) ?_
    obtain ⟨hr5, h⟩ := h
    refine qv_add dX7_value_72 ?_
    exact qv_ret dX7_value_73 rfl h
  · have h := h2 (Decidable.of_not_not c)
    refine qv_g (pc' := 17) (ls' := [some (.ref m), l1, some (.int (iI x2)), some (.int (iI x3))]) (st' := [.ref m]) dX7_value_16 (fun _ _ => rfl) ?_
    refine qv_getA dX7_value_17 rfl rfl (by decide) ?_
    refine qv_g (pc' := 21) (ls' := [some (.ref m), l1, some (.int (iI x2)), some (.int (iI x3))]) (st' := [.int (iI x3), .ref (A 7)]) dX7_value_20 (fun _ _ => rfl) ?_
    obtain ⟨hr6, h⟩ := h
    refine qv_iald dX7_value_21 (by decide) hr6 (by decide) ?_
    refine qv_ic dX7_value_22 ?_
    obtain ⟨h1, h2⟩ := h
    refine qv_icmp (t := 31) dX7_value_23 (by decide) (d_eq (hvv _ _) (by decide)) (fun c => ?_) (fun c => ?_)
    · have h := h1 c
      exact h
    · have h := h2 c
      refine qv_g (pc' := 27) (ls' := [some (.ref m), l1, some (.int (iI x2)), some (.int (iI x3))]) (st' := [.int (iI x2)]) dX7_value_26 (fun _ _ => rfl) ?_
      refine qv_ic dX7_value_27 ?_
      obtain ⟨h1, h2⟩ := h
      refine qv_icmp (t := 33) dX7_value_28 (by decide) (d_ne hx2 (by decide)) (fun c => ?_) (fun c => ?_)
      · have h := h1 c
        refine qv_g (pc' := 34) (ls' := [some (.ref m), l1, some (.int (iI x2)), some (.int (iI x3))]) (st' := [.ref m]) dX7_value_33 (fun _ _ => rfl) ?_
        refine qv_getA dX7_value_34 rfl rfl (by decide) ?_
        refine qv_g (pc' := 38) (ls' := [some (.ref m), l1, some (.int (iI x2)), some (.int (iI x3))]) (st' := [.int (iI x3), .ref (A 7)]) dX7_value_37 (fun _ _ => rfl) ?_
        obtain ⟨hr7, h⟩ := h
        refine qv_iald dX7_value_38 (by decide) hr7 (by decide) ?_
        refine qv_g (pc' := 40) (ls' := [some (.ref m), l1, some (.int (iI x2)), some (.int (iI (v 7 x3)))]) (st' := []) dX7_value_39 (fun _ _ => rfl) ?_
        refine qv_g (pc' := 41) (ls' := [some (.ref m), l1, some (.int (iI x2)), some (.int (iI (v 7 x3)))]) (st' := [.int (iI x2)]) dX7_value_40 (fun _ _ => rfl) ?_
        refine qv_bi dX7_value_41 (by decide) ?_
        obtain ⟨h1, h2⟩ := h
        refine qv_icmp (t := 2) dX7_value_43 (by decide) (d_ne hx2 (by decide)) (fun c => ?_) (fun c => ?_)
        · have h := h1 c
          exact h
        · have h := h2 (Decidable.of_not_not c)
          refine qv_g (pc' := 47) (ls' := [some (.ref m), l1, some (.int (iI x2)), some (.int (iI (v 7 x3)))]) (st' := [.ref m]) dX7_value_46 (fun _ _ => rfl) ?_
          refine qv_getA dX7_value_47 rfl rfl (by decide) ?_
          refine qv_bi dX7_value_50 (by decide) ?_
          refine qv_g (pc' := 53) (ls' := [some (.ref m), l1, some (.int (iI x2)), some (.int (iI (v 7 x3)))]) (st' := [.int (iI (v 7 x3)), .int (iI 8), .ref (A 5)]) dX7_value_52 (fun _ _ => rfl) ?_
          obtain ⟨hr8, h⟩ := h
          refine qv_mul dX7_value_53 ?_
          refine qv_ic dX7_value_54 ?_
          obtain ⟨hr9, h⟩ := h
          refine qv_add dX7_value_55 ?_
          obtain ⟨hr10, h⟩ := h
          refine qv_iald dX7_value_56 (by decide) hr10 (by decide) ?_
          obtain ⟨h1, h2⟩ := h
          refine qv_if (t := 2) dX7_value_57 (by decide) (d_le (hvv _ _) (by decide)) (fun c => ?_) (fun c => ?_)
          · have h := h1 c
            exact h
          · have h := h2 (Int.not_le.mp c)
            refine qv_bi dX7_value_60 (by decide) ?_
            refine qv_g (pc' := 63) (ls' := [some (.ref m), l1, some (.int (iI x2)), some (.int (iI (v 7 x3)))]) (st' := [.int (iI (v 7 x3)), .int (iI 8)]) dX7_value_62 (fun _ _ => rfl) ?_
            obtain ⟨hr11, h⟩ := h
            refine qv_mul dX7_value_63 ?_
            refine qv_ic dX7_value_64 ?_
            obtain ⟨hr12, h⟩ := h
            refine qv_add dX7_value_65 ?_
            exact qv_ret dX7_value_66 rfl h
      · have h := h2 (Decidable.of_not_not c)
        exact h
theorem v103_31 {v : VS} {Q : Rs → VS → Prop} {l0 : Option Value} {l1 : Option Value} {l2 : Option Value} {l3 : Option Value}
    (h : Q (Sum.inl (some (.int (iI (-1))))) v)  :
    RW g C S m A 103 31 [l0, l1, l2, l3] [] v Q := by
  refine qv_R (fun hvv => ?_)
  refine qv_ic dX7_value_31 ?_
  exact qv_ret dX7_value_32 rfl h
theorem v104_0 {v : VS} {Q : Rs → VS → Prop} {x1 : Int} {l2 : Option Value} {l3 : Option Value} {l4 : Option Value}
    (h : RW g C S m A 104 2 [some (.ref m), some (.int (iI x1)), some (.int (iI 0)), l3, l4] [] v Q) (hx1 : (-2147483648 : Int) ≤ x1 ∧ x1 ≤ 2147483647 := by omega) :
    RW g C S m A 104 0 [some (.ref m), some (.int (iI x1)), l2, l3, l4] [] v Q := by
  refine qv_R (fun hvv => ?_)
  refine qv_ic dX7_real_0 ?_
  refine qv_g (pc' := 2) (ls' := [some (.ref m), some (.int (iI x1)), some (.int (iI 0)), l3, l4]) (st' := []) dX7_real_1 (fun _ _ => rfl) ?_
  exact h
theorem v104_2 {v : VS} {Q : Rs → VS → Prop} {x1 : Int} {x2 : Int} {l3 : Option Value} {l4 : Option Value}
    (h : (x1 ≤ x2 → RW g C S m A 104 106 [some (.ref m), some (.int (iI x1)), some (.int (iI x2)), l3, l4] [] v Q) ∧ (x2 < x1 → ((0 : Int) ≤ x1 ∧ (x1 : Int) < 24) ∧ (v 3 x1 ≤ 0 → RW g C S m A 104 106 [some (.ref m), some (.int (iI x1)), some (.int (iI x2)), l3, l4] [] v Q) ∧ (0 < v 3 x1 → ((0 : Int) ≤ x2 ∧ (x2 : Int) < 24) ∧ ((0 : Int) ≤ x1 ∧ (x1 : Int) < 24) ∧ (¬ v 3 x2 = v 3 x1 → RW g C S m A 104 36 [some (.ref m), some (.int (iI x1)), some (.int (iI x2)), l3, l4] [.int (iI 0)] v Q) ∧ (v 3 x2 = v 3 x1 → RW g C S m A 104 36 [some (.ref m), some (.int (iI x1)), some (.int (iI x2)), l3, l4] [.int (iI 1)] v Q)))) (hx1 : (-2147483648 : Int) ≤ x1 ∧ x1 ≤ 2147483647 := by omega) (hx2 : (-2147483648 : Int) ≤ x2 ∧ x2 ≤ 2147483647 := by omega) :
    RW g C S m A 104 2 [some (.ref m), some (.int (iI x1)), some (.int (iI x2)), l3, l4] [] v Q := by
  refine qv_R (fun hvv => ?_)
  refine qv_g (pc' := 3) (ls' := [some (.ref m), some (.int (iI x1)), some (.int (iI x2)), l3, l4]) (st' := [.int (iI x2)]) dX7_real_2 (fun _ _ => rfl) ?_
  refine qv_g (pc' := 4) (ls' := [some (.ref m), some (.int (iI x1)), some (.int (iI x2)), l3, l4]) (st' := [.int (iI x1), .int (iI x2)]) dX7_real_3 (fun _ _ => rfl) ?_
  obtain ⟨h1, h2⟩ := h
  refine qv_icmp (t := 106) dX7_real_4 (by decide) (d_ge hx2 hx1) (fun c => ?_) (fun c => ?_)
  · have h := h1 c
    exact h
  · have h := h2 (Int.not_le.mp c)
    refine qv_g (pc' := 8) (ls' := [some (.ref m), some (.int (iI x1)), some (.int (iI x2)), l3, l4]) (st' := [.ref m]) dX7_real_7 (fun _ _ => rfl) ?_
    refine qv_getA dX7_real_8 rfl rfl (by decide) ?_
    refine qv_g (pc' := 12) (ls' := [some (.ref m), some (.int (iI x1)), some (.int (iI x2)), l3, l4]) (st' := [.int (iI x1), .ref (A 3)]) dX7_real_11 (fun _ _ => rfl) ?_
    obtain ⟨hr1, h⟩ := h
    refine qv_iald dX7_real_12 (by decide) hr1 (by decide) ?_
    obtain ⟨h1, h2⟩ := h
    refine qv_if (t := 106) dX7_real_13 (by decide) (d_le (hvv _ _) (by decide)) (fun c => ?_) (fun c => ?_)
    · have h := h1 c
      exact h
    · have h := h2 (Int.not_le.mp c)
      refine qv_g (pc' := 17) (ls' := [some (.ref m), some (.int (iI x1)), some (.int (iI x2)), l3, l4]) (st' := [.ref m]) dX7_real_16 (fun _ _ => rfl) ?_
      refine qv_getA dX7_real_17 rfl rfl (by decide) ?_
      refine qv_g (pc' := 21) (ls' := [some (.ref m), some (.int (iI x1)), some (.int (iI x2)), l3, l4]) (st' := [.int (iI x2), .ref (A 3)]) dX7_real_20 (fun _ _ => rfl) ?_
      obtain ⟨hr2, h⟩ := h
      refine qv_iald dX7_real_21 (by decide) hr2 (by decide) ?_
      refine qv_g (pc' := 23) (ls' := [some (.ref m), some (.int (iI x1)), some (.int (iI x2)), l3, l4]) (st' := [.ref m, .int (iI (v 3 x2))]) dX7_real_22 (fun _ _ => rfl) ?_
      refine qv_getA dX7_real_23 rfl rfl (by decide) ?_
      refine qv_g (pc' := 27) (ls' := [some (.ref m), some (.int (iI x1)), some (.int (iI x2)), l3, l4]) (st' := [.int (iI x1), .ref (A 3), .int (iI (v 3 x2))]) dX7_real_26 (fun _ _ => rfl) ?_
      obtain ⟨hr3, h⟩ := h
      refine qv_iald dX7_real_27 (by decide) hr3 (by decide) ?_
      obtain ⟨h1, h2⟩ := h
      refine qv_icmp (t := 35) dX7_real_28 (by decide) (d_ne (hvv _ _) (hvv _ _)) (fun c => ?_) (fun c => ?_)
      · have h := h1 c
        refine qv_ic dX7_real_35 ?_
        exact h
      · have h := h2 (Decidable.of_not_not c)
        refine qv_ic dX7_real_31 ?_
        refine qv_goto (t := 36) dX7_real_32 (by decide) ?_
        exact h
theorem v104_36 {v : VS} {Q : Rs → VS → Prop} {x1 : Int} {x2 : Int} {l3 : Option Value} {l4 : Option Value} {u0 : Int}
    (h : RW g C S m A 104 40 [some (.ref m), some (.int (iI x1)), some (.int (iI x2)), some (.int (iI u0)), some (.int (iI 0))] [] v Q) (hx1 : (-2147483648 : Int) ≤ x1 ∧ x1 ≤ 2147483647 := by omega) (hx2 : (-2147483648 : Int) ≤ x2 ∧ x2 ≤ 2147483647 := by omega) (hu0 : (-2147483648 : Int) ≤ u0 ∧ u0 ≤ 2147483647 := by omega) :
    RW g C S m A 104 36 [some (.ref m), some (.int (iI x1)), some (.int (iI x2)), l3, l4] [.int (iI u0)] v Q := by
  refine qv_R (fun hvv => ?_)
  refine qv_g (pc' := 37) (ls' := [some (.ref m), some (.int (iI x1)), some (.int (iI x2)), some (.int (iI u0)), l4]) (st' := []) dX7_real_36 (fun _ _ => rfl) ?_
  refine qv_ic dX7_real_37 ?_
  refine qv_g (pc' := 40) (ls' := [some (.ref m), some (.int (iI x1)), some (.int (iI x2)), some (.int (iI u0)), some (.int (iI 0))]) (st' := []) dX7_real_38 (fun _ _ => rfl) ?_
  exact h
theorem v104_40 {v : VS} {Q : Rs → VS → Prop} {x1 : Int} {x2 : Int} {x3 : Int} {x4 : Int}
    (h : ((0 : Int) ≤ x1 ∧ (x1 : Int) < 24) ∧ (v 3 x1 ≤ x4 → RW g C S m A 104 94 [some (.ref m), some (.int (iI x1)), some (.int (iI x2)), some (.int (iI x3)), some (.int (iI x4))] [] v Q) ∧ (x4 < v 3 x1 → (x3 = 0 → RW g C S m A 104 94 [some (.ref m), some (.int (iI x1)), some (.int (iI x2)), some (.int (iI x3)), some (.int (iI x4))] [] v Q) ∧ (¬ x3 = 0 → ((-2147483648 : Int) ≤ 16 * x2 ∧ 16 * x2 ≤ 2147483647) ∧ ((-2147483648 : Int) ≤ (16 * x2) + x4 ∧ (16 * x2) + x4 ≤ 2147483647) ∧ ((0 : Int) ≤ (16 * x2) + x4 ∧ ((16 * x2) + x4 : Int) < 384) ∧ ((-2147483648 : Int) ≤ 16 * x1 ∧ 16 * x1 ≤ 2147483647) ∧ ((-2147483648 : Int) ≤ (16 * x1) + x4 ∧ (16 * x1) + x4 ≤ 2147483647) ∧ ((0 : Int) ≤ (16 * x1) + x4 ∧ ((16 * x1) + x4 : Int) < 384) ∧ (¬ v 4 ((16 * x2) + x4) = v 4 ((16 * x1) + x4) → RW g C S m A 104 87 [some (.ref m), some (.int (iI x1)), some (.int (iI x2)), some (.int (iI x3)), some (.int (iI x4))] [.int (iI 0)] v Q) ∧ (v 4 ((16 * x2) + x4) = v 4 ((16 * x1) + x4) → RW g C S m A 104 87 [some (.ref m), some (.int (iI x1)), some (.int (iI x2)), some (.int (iI x3)), some (.int (iI x4))] [.int (iI 1)] v Q)))) (hx1 : (-2147483648 : Int) ≤ x1 ∧ x1 ≤ 2147483647 := by omega) (hx2 : (-2147483648 : Int) ≤ x2 ∧ x2 ≤ 2147483647 := by omega) (hx3 : (-2147483648 : Int) ≤ x3 ∧ x3 ≤ 2147483647 := by omega) (hx4 : (-2147483648 : Int) ≤ x4 ∧ x4 ≤ 2147483647 := by omega) :
    RW g C S m A 104 40 [some (.ref m), some (.int (iI x1)), some (.int (iI x2)), some (.int (iI x3)), some (.int (iI x4))] [] v Q := by
  refine qv_R (fun hvv => ?_)
  refine qv_g (pc' := 42) (ls' := [some (.ref m), some (.int (iI x1)), some (.int (iI x2)), some (.int (iI x3)), some (.int (iI x4))]) (st' := [.int (iI x4)]) dX7_real_40 (fun _ _ => rfl) ?_
  refine qv_g (pc' := 43) (ls' := [some (.ref m), some (.int (iI x1)), some (.int (iI x2)), some (.int (iI x3)), some (.int (iI x4))]) (st' := [.ref m, .int (iI x4)]) dX7_real_42 (fun _ _ => rfl) ?_
  refine qv_getA dX7_real_43 rfl rfl (by decide) ?_
  refine qv_g (pc' := 47) (ls' := [some (.ref m), some (.int (iI x1)), some (.int (iI x2)), some (.int (iI x3)), some (.int (iI x4))]) (st' := [.int (iI x1), .ref (A 3), .int (iI x4)]) dX7_real_46 (fun _ _ => rfl) ?_
  obtain ⟨hr1, h⟩ := h
  refine qv_iald dX7_real_47 (by decide) hr1 (by decide) ?_
  obtain ⟨h1, h2⟩ := h
  refine qv_icmp (t := 94) dX7_real_48 (by decide) (d_ge hx4 (hvv _ _)) (fun c => ?_) (fun c => ?_)
  · have h := h1 c
    exact h
  · have h := h2 (Int.not_le.mp c)
    refine qv_g (pc' := 52) (ls' := [some (.ref m), some (.int (iI x1)), some (.int (iI x2)), some (.int (iI x3)), some (.int (iI x4))]) (st' := [.int (iI x3)]) dX7_real_51 (fun _ _ => rfl) ?_
    obtain ⟨h1, h2⟩ := h
    refine qv_if (t := 94) dX7_real_52 (by decide) (d_eq hx3 (by decide)) (fun c => ?_) (fun c => ?_)
    · have h := h1 c
      exact h
    · have h := h2 c
      refine qv_g (pc' := 56) (ls' := [some (.ref m), some (.int (iI x1)), some (.int (iI x2)), some (.int (iI x3)), some (.int (iI x4))]) (st' := [.ref m]) dX7_real_55 (fun _ _ => rfl) ?_
      refine qv_getA dX7_real_56 rfl rfl (by decide) ?_
      refine qv_bi dX7_real_59 (by decide) ?_
      refine qv_g (pc' := 62) (ls' := [some (.ref m), some (.int (iI x1)), some (.int (iI x2)), some (.int (iI x3)), some (.int (iI x4))]) (st' := [.int (iI x2), .int (iI 16), .ref (A 4)]) dX7_real_61 (fun _ _ => rfl) ?_
      obtain ⟨hr2, h⟩ := h
      refine qv_mul dX7_real_62 ?_
      refine qv_g (pc' := 65) (ls' := [some (.ref m), some (.int (iI x1)), some (.int (iI x2)), some (.int (iI x3)), some (.int (iI x4))]) (st' := [.int (iI x4), .int (iI (16 * x2)), .ref (A 4)]) dX7_real_63 (fun _ _ => rfl) ?_
      obtain ⟨hr3, h⟩ := h
      refine qv_add dX7_real_65 ?_
      obtain ⟨hr4, h⟩ := h
      refine qv_iald dX7_real_66 (by decide) hr4 (by decide) ?_
      refine qv_g (pc' := 68) (ls' := [some (.ref m), some (.int (iI x1)), some (.int (iI x2)), some (.int (iI x3)), some (.int (iI x4))]) (st' := [.ref m, .int (iI (v 4 ((16 * x2) + x4)))]) dX7_real_67 (fun _ _ => rfl) ?_
      refine qv_getA dX7_real_68 rfl rfl (by decide) ?_
      refine qv_bi dX7_real_71 (by decide) ?_
      refine qv_g (pc' := 74) (ls' := [some (.ref m), some (.int (iI x1)), some (.int (iI x2)), some (.int (iI x3)), some (.int (iI x4))]) (st' := [.int (iI x1), .int (iI 16), .ref (A 4), .int (iI (v 4 ((16 * x2) + x4)))]) dX7_real_73 (fun _ _ => rfl) ?_
      obtain ⟨hr5, h⟩ := h
      refine qv_mul dX7_real_74 ?_
      refine qv_g (pc' := 77) (ls' := [some (.ref m), some (.int (iI x1)), some (.int (iI x2)), some (.int (iI x3)), some (.int (iI x4))]) (st' := [.int (iI x4), .int (iI (16 * x1)), .ref (A 4), .int (iI (v 4 ((16 * x2) + x4)))]) dX7_real_75 (fun _ _ => rfl) ?_
      obtain ⟨hr6, h⟩ := h
      refine qv_add dX7_real_77 ?_
      obtain ⟨hr7, h⟩ := h
      refine qv_iald dX7_real_78 (by decide) hr7 (by decide) ?_
      obtain ⟨h1, h2⟩ := h
      refine qv_icmp (t := 86) dX7_real_79 (by decide) (d_ne (hvv _ _) (hvv _ _)) (fun c => ?_) (fun c => ?_)
      · have h := h1 c
        refine qv_ic dX7_real_86 ?_
        exact h
      · have h := h2 (Decidable.of_not_not c)
        refine qv_ic dX7_real_82 ?_
        refine qv_goto (t := 87) dX7_real_83 (by decide) ?_
        exact h
theorem v104_87 {v : VS} {Q : Rs → VS → Prop} {x1 : Int} {x2 : Int} {l3 : Option Value} {x4 : Int} {u0 : Int}
    (h : ((-2147483648 : Int) ≤ x4 + 1 ∧ x4 + 1 ≤ 2147483647) ∧ RW g C S m A 104 40 [some (.ref m), some (.int (iI x1)), some (.int (iI x2)), some (.int (iI u0)), some (.int (iI (x4 + 1)))] [] v Q) (hx1 : (-2147483648 : Int) ≤ x1 ∧ x1 ≤ 2147483647 := by omega) (hx2 : (-2147483648 : Int) ≤ x2 ∧ x2 ≤ 2147483647 := by omega) (hx4 : (-2147483648 : Int) ≤ x4 ∧ x4 ≤ 2147483647 := by omega) (hu0 : (-2147483648 : Int) ≤ u0 ∧ u0 ≤ 2147483647 := by omega) :
    RW g C S m A 104 87 [some (.ref m), some (.int (iI x1)), some (.int (iI x2)), l3, some (.int (iI x4))] [.int (iI u0)] v Q := by
  refine qv_R (fun hvv => ?_)
  refine qv_g (pc' := 88) (ls' := [some (.ref m), some (.int (iI x1)), some (.int (iI x2)), some (.int (iI u0)), some (.int (iI x4))]) (st' := []) dX7_real_87 (fun _ _ => rfl) ?_
  obtain ⟨hr1, h⟩ := h
  refine qv_inc (ls' := [some (.ref m), some (.int (iI x1)), some (.int (iI x2)), some (.int (iI u0)), some (.int (iI (x4 + 1)))]) dX7_real_88 rfl (Nat.le_of_ble_eq_true rfl) rfl ?_
  refine qv_goto (t := 40) dX7_real_91 (by decide) ?_
  exact h
theorem v104_94 {v : VS} {Q : Rs → VS → Prop} {x1 : Int} {x2 : Int} {x3 : Int} {l4 : Option Value}
    (h : (x3 = 0 → ((-2147483648 : Int) ≤ x2 + 1 ∧ x2 + 1 ≤ 2147483647) ∧ RW g C S m A 104 2 [some (.ref m), some (.int (iI x1)), some (.int (iI (x2 + 1))), some (.int (iI x3)), l4] [] v Q) ∧ (¬ x3 = 0 → Q (Sum.inl (some (.int (iI x2)))) v)) (hx1 : (-2147483648 : Int) ≤ x1 ∧ x1 ≤ 2147483647 := by omega) (hx2 : (-2147483648 : Int) ≤ x2 ∧ x2 ≤ 2147483647 := by omega) (hx3 : (-2147483648 : Int) ≤ x3 ∧ x3 ≤ 2147483647 := by omega) :
    RW g C S m A 104 94 [some (.ref m), some (.int (iI x1)), some (.int (iI x2)), some (.int (iI x3)), l4] [] v Q := by
  refine qv_R (fun hvv => ?_)
  refine qv_g (pc' := 95) (ls' := [some (.ref m), some (.int (iI x1)), some (.int (iI x2)), some (.int (iI x3)), l4]) (st' := [.int (iI x3)]) dX7_real_94 (fun _ _ => rfl) ?_
  obtain ⟨h1, h2⟩ := h
  refine qv_if (t := 100) dX7_real_95 (by decide) (d_eq hx3 (by decide)) (fun c => ?_) (fun c => ?_)
  · have h := h1 c
    obtain ⟨hr1, h⟩ := h
    refine qv_inc (ls' := [some (.ref m), some (.int (iI x1)), some (.int (iI (x2 + 1))), some (.int (iI x3)), l4]) dX7_real_100 rfl (Nat.le_of_ble_eq_true rfl) rfl ?_
    refine qv_goto (t := 2) dX7_real_103 (by decide) ?_
    exact h
  · have h := h2 c
    refine qv_g (pc' := 99) (ls' := [some (.ref m), some (.int (iI x1)), some (.int (iI x2)), some (.int (iI x3)), l4]) (st' := [.int (iI x2)]) dX7_real_98 (fun _ _ => rfl) ?_
    exact qv_ret dX7_real_99 rfl h
theorem v104_106 {v : VS} {Q : Rs → VS → Prop} {l0 : Option Value} {x1 : Int} {l2 : Option Value} {l3 : Option Value} {l4 : Option Value}
    (h : Q (Sum.inl (some (.int (iI x1)))) v) (hx1 : (-2147483648 : Int) ≤ x1 ∧ x1 ≤ 2147483647 := by omega) :
    RW g C S m A 104 106 [l0, some (.int (iI x1)), l2, l3, l4] [] v Q := by
  refine qv_R (fun hvv => ?_)
  refine qv_g (pc' := 107) (ls' := [l0, some (.int (iI x1)), l2, l3, l4]) (st' := [.int (iI x1)]) dX7_real_106 (fun _ _ => rfl) ?_
  exact qv_ret dX7_real_107 rfl h
theorem v105_0 {v : VS} {Q : Rs → VS → Prop} {x0 : Int} {l1 : Option Value}
    (h : (192 ≤ x0 → (¬ x0 = 223 → (x0 = 222 → RW g C S m A 105 52 [some (.int (iI x0)), l1] [] v Q) ∧ (¬ x0 = 222 → (¬ x0 = 254 → (224 ≤ x0 → RW g C S m A 105 70 [some (.int (iI x0)), l1] [.int (iI x0)] v Q) ∧ (x0 < 224 → ((-2147483648 : Int) ≤ x0 + 32 ∧ x0 + 32 ≤ 2147483647) ∧ RW g C S m A 105 70 [some (.int (iI x0)), l1] [.int (iI (x0 + 32))] v Q)) ∧ (x0 = 254 → RW g C S m A 105 52 [some (.int (iI x0)), l1] [] v Q))) ∧ (x0 = 223 → Q (Sum.inl (some (.int (iI 115)))) v)) ∧ (x0 < 192 → (x0 < 65 → RW g C S m A 105 26 [some (.int (iI x0)), l1] [] v Q) ∧ (65 ≤ x0 → (90 < x0 → RW g C S m A 105 26 [some (.int (iI x0)), l1] [] v Q) ∧ (x0 ≤ 90 → ((-2147483648 : Int) ≤ x0 + 32 ∧ x0 + 32 ≤ 2147483647) ∧ RW g C S m A 105 27 [some (.int (iI x0)), l1] [.int (iI (x0 + 32))] v Q)))) (hx0 : (-2147483648 : Int) ≤ x0 ∧ x0 ≤ 2147483647 := by omega) :
    RW g C S m A 105 0 [some (.int (iI x0)), l1] [] v Q := by
  refine qv_R (fun hvv => ?_)
  refine qv_g (pc' := 1) (ls' := [some (.int (iI x0)), l1]) (st' := [.int (iI x0)]) dX7_fold_0 (fun _ _ => rfl) ?_
  refine qv_si dX7_fold_1 (by decide) ?_
  obtain ⟨h1, h2⟩ := h
  refine qv_icmp (t := 28) dX7_fold_4 (by decide) (d_ge hx0 (by decide)) (fun c => ?_) (fun c => ?_)
  · have h := h1 c
    refine qv_g (pc' := 29) (ls' := [some (.int (iI x0)), l1]) (st' := [.int (iI x0)]) dX7_fold_28 (fun _ _ => rfl) ?_
    refine qv_si dX7_fold_29 (by decide) ?_
    obtain ⟨h1, h2⟩ := h
    refine qv_icmp (t := 38) dX7_fold_32 (by decide) (d_ne hx0 (by decide)) (fun c => ?_) (fun c => ?_)
    · have h := h1 c
      refine qv_g (pc' := 39) (ls' := [some (.int (iI x0)), l1]) (st' := [.int (iI x0)]) dX7_fold_38 (fun _ _ => rfl) ?_
      refine qv_si dX7_fold_39 (by decide) ?_
      obtain ⟨h1, h2⟩ := h
      refine qv_icmp (t := 52) dX7_fold_42 (by decide) (d_eq hx0 (by decide)) (fun c => ?_) (fun c => ?_)
      · have h := h1 c
        exact h
      · have h := h2 c
        refine qv_g (pc' := 46) (ls' := [some (.int (iI x0)), l1]) (st' := [.int (iI x0)]) dX7_fold_45 (fun _ _ => rfl) ?_
        refine qv_si dX7_fold_46 (by decide) ?_
        obtain ⟨h1, h2⟩ := h
        refine qv_icmp (t := 55) dX7_fold_49 (by decide) (d_ne hx0 (by decide)) (fun c => ?_) (fun c => ?_)
        · have h := h1 c
          refine qv_g (pc' := 56) (ls' := [some (.int (iI x0)), l1]) (st' := [.int (iI x0)]) dX7_fold_55 (fun _ _ => rfl) ?_
          refine qv_si dX7_fold_56 (by decide) ?_
          obtain ⟨h1, h2⟩ := h
          refine qv_icmp (t := 69) dX7_fold_59 (by decide) (d_ge hx0 (by decide)) (fun c => ?_) (fun c => ?_)
          · have h := h1 c
            refine qv_g (pc' := 70) (ls' := [some (.int (iI x0)), l1]) (st' := [.int (iI x0)]) dX7_fold_69 (fun _ _ => rfl) ?_
            exact h
          · have h := h2 (Int.not_le.mp c)
            refine qv_g (pc' := 63) (ls' := [some (.int (iI x0)), l1]) (st' := [.int (iI x0)]) dX7_fold_62 (fun _ _ => rfl) ?_
            refine qv_bi dX7_fold_63 (by decide) ?_
            obtain ⟨hr1, h⟩ := h
            refine qv_add dX7_fold_65 ?_
            refine qv_goto (t := 70) dX7_fold_66 (by decide) ?_
            exact h
        · have h := h2 (Decidable.of_not_not c)
          exact h
    · have h := h2 (Decidable.of_not_not c)
      refine qv_bi dX7_fold_35 (by decide) ?_
      exact qv_ret dX7_fold_37 rfl h
  · have h := h2 (Int.not_le.mp c)
    refine qv_g (pc' := 8) (ls' := [some (.int (iI x0)), l1]) (st' := [.int (iI x0)]) dX7_fold_7 (fun _ _ => rfl) ?_
    refine qv_bi dX7_fold_8 (by decide) ?_
    obtain ⟨h1, h2⟩ := h
    refine qv_icmp (t := 26) dX7_fold_10 (by decide) (d_lt hx0 (by decide)) (fun c => ?_) (fun c => ?_)
    · have h := h1 c
      exact h
    · have h := h2 (Int.not_lt.mp c)
      refine qv_g (pc' := 14) (ls' := [some (.int (iI x0)), l1]) (st' := [.int (iI x0)]) dX7_fold_13 (fun _ _ => rfl) ?_
      refine qv_bi dX7_fold_14 (by decide) ?_
      obtain ⟨h1, h2⟩ := h
      refine qv_icmp (t := 26) dX7_fold_16 (by decide) (d_gt hx0 (by decide)) (fun c => ?_) (fun c => ?_)
      · have h := h1 c
        exact h
      · have h := h2 (Int.not_lt.mp c)
        refine qv_g (pc' := 20) (ls' := [some (.int (iI x0)), l1]) (st' := [.int (iI x0)]) dX7_fold_19 (fun _ _ => rfl) ?_
        refine qv_bi dX7_fold_20 (by decide) ?_
        obtain ⟨hr2, h⟩ := h
        refine qv_add dX7_fold_22 ?_
        refine qv_goto (t := 27) dX7_fold_23 (by decide) ?_
        exact h
theorem v105_26 {v : VS} {Q : Rs → VS → Prop} {x0 : Int} {l1 : Option Value}
    (h : RW g C S m A 105 27 [some (.int (iI x0)), l1] [.int (iI x0)] v Q) (hx0 : (-2147483648 : Int) ≤ x0 ∧ x0 ≤ 2147483647 := by omega) :
    RW g C S m A 105 26 [some (.int (iI x0)), l1] [] v Q := by
  refine qv_R (fun hvv => ?_)
  refine qv_g (pc' := 27) (ls' := [some (.int (iI x0)), l1]) (st' := [.int (iI x0)]) dX7_fold_26 (fun _ _ => rfl) ?_
  exact h
theorem v105_27 {v : VS} {Q : Rs → VS → Prop} {l0 : Option Value} {l1 : Option Value} {u0 : Int}
    (h : Q (Sum.inl (some (.int (iI u0)))) v) (hu0 : (-2147483648 : Int) ≤ u0 ∧ u0 ≤ 2147483647 := by omega) :
    RW g C S m A 105 27 [l0, l1] [.int (iI u0)] v Q := by
  refine qv_R (fun hvv => ?_)
  exact qv_ret dX7_fold_27 rfl h
theorem v105_52 {v : VS} {Q : Rs → VS → Prop} {l0 : Option Value} {l1 : Option Value}
    (h : Q (Sum.inl (some (.int (iI 116)))) v)  :
    RW g C S m A 105 52 [l0, l1] [] v Q := by
  refine qv_R (fun hvv => ?_)
  refine qv_bi dX7_fold_52 (by decide) ?_
  exact qv_ret dX7_fold_54 rfl h
theorem v105_70 {v : VS} {Q : Rs → VS → Prop} {l0 : Option Value} {l1 : Option Value} {u0 : Int}
    (h : (232 ≤ u0 → (240 ≤ u0 → (249 ≤ u0 → (253 ≤ u0 → RW g C S m A 105 163 [(clr l0), some (.int (iI u0))] [.int (iI 121)] v Q) ∧ (u0 < 253 → RW g C S m A 105 163 [(clr l0), some (.int (iI u0))] [.int (iI 117)] v Q)) ∧ (u0 < 249 → (¬ u0 = 240 → (¬ u0 = 241 → RW g C S m A 105 148 [(clr l0), some (.int (iI u0))] [.int (iI 111)] v Q) ∧ (u0 = 241 → RW g C S m A 105 148 [(clr l0), some (.int (iI u0))] [.int (iI 110)] v Q)) ∧ (u0 = 240 → RW g C S m A 105 148 [(clr l0), some (.int (iI u0))] [.int (iI 100)] v Q))) ∧ (u0 < 240 → (236 ≤ u0 → RW g C S m A 105 114 [(clr l0), some (.int (iI u0))] [.int (iI 105)] v Q) ∧ (u0 < 236 → RW g C S m A 105 114 [(clr l0), some (.int (iI u0))] [.int (iI 101)] v Q))) ∧ (u0 < 232 → (¬ u0 = 231 → RW g C S m A 105 92 [(clr l0), some (.int (iI u0))] [.int (iI 97)] v Q) ∧ (u0 = 231 → RW g C S m A 105 92 [(clr l0), some (.int (iI u0))] [.int (iI 99)] v Q))) (hu0 : (-2147483648 : Int) ≤ u0 ∧ u0 ≤ 2147483647 := by omega) :
    RW g C S m A 105 70 [l0, l1] [.int (iI u0)] v Q := by
  refine qv_R (fun hvv => ?_)
  refine qv_g (pc' := 71) (ls' := [(clr l0), some (.int (iI u0))]) (st' := []) dX7_fold_70 (fun _ _ => rfl) ?_
  refine qv_g (pc' := 72) (ls' := [(clr l0), some (.int (iI u0))]) (st' := [.int (iI u0)]) dX7_fold_71 (fun _ _ => rfl) ?_
  refine qv_si dX7_fold_72 (by decide) ?_
  obtain ⟨h1, h2⟩ := h
  refine qv_icmp (t := 93) dX7_fold_75 (by decide) (d_ge hu0 (by decide)) (fun c => ?_) (fun c => ?_)
  · have h := h1 c
    refine qv_g (pc' := 94) (ls' := [(clr l0), some (.int (iI u0))]) (st' := [.int (iI u0)]) dX7_fold_93 (fun _ _ => rfl) ?_
    refine qv_si dX7_fold_94 (by decide) ?_
    obtain ⟨h1, h2⟩ := h
    refine qv_icmp (t := 115) dX7_fold_97 (by decide) (d_ge hu0 (by decide)) (fun c => ?_) (fun c => ?_)
    · have h := h1 c
      refine qv_g (pc' := 116) (ls' := [(clr l0), some (.int (iI u0))]) (st' := [.int (iI u0)]) dX7_fold_115 (fun _ _ => rfl) ?_
      refine qv_si dX7_fold_116 (by decide) ?_
      obtain ⟨h1, h2⟩ := h
      refine qv_icmp (t := 149) dX7_fold_119 (by decide) (d_ge hu0 (by decide)) (fun c => ?_) (fun c => ?_)
      · have h := h1 c
        refine qv_g (pc' := 150) (ls' := [(clr l0), some (.int (iI u0))]) (st' := [.int (iI u0)]) dX7_fold_149 (fun _ _ => rfl) ?_
        refine qv_si dX7_fold_150 (by decide) ?_
        obtain ⟨h1, h2⟩ := h
        refine qv_icmp (t := 161) dX7_fold_153 (by decide) (d_ge hu0 (by decide)) (fun c => ?_) (fun c => ?_)
        · have h := h1 c
          refine qv_bi dX7_fold_161 (by decide) ?_
          exact h
        · have h := h2 (Int.not_le.mp c)
          refine qv_bi dX7_fold_156 (by decide) ?_
          refine qv_goto (t := 163) dX7_fold_158 (by decide) ?_
          exact h
      · have h := h2 (Int.not_le.mp c)
        refine qv_g (pc' := 123) (ls' := [(clr l0), some (.int (iI u0))]) (st' := [.int (iI u0)]) dX7_fold_122 (fun _ _ => rfl) ?_
        refine qv_si dX7_fold_123 (by decide) ?_
        obtain ⟨h1, h2⟩ := h
        refine qv_icmp (t := 134) dX7_fold_126 (by decide) (d_ne hu0 (by decide)) (fun c => ?_) (fun c => ?_)
        · have h := h1 c
          refine qv_g (pc' := 135) (ls' := [(clr l0), some (.int (iI u0))]) (st' := [.int (iI u0)]) dX7_fold_134 (fun _ _ => rfl) ?_
          refine qv_si dX7_fold_135 (by decide) ?_
          obtain ⟨h1, h2⟩ := h
          refine qv_icmp (t := 146) dX7_fold_138 (by decide) (d_ne hu0 (by decide)) (fun c => ?_) (fun c => ?_)
          · have h := h1 c
            refine qv_bi dX7_fold_146 (by decide) ?_
            exact h
          · have h := h2 (Decidable.of_not_not c)
            refine qv_bi dX7_fold_141 (by decide) ?_
            refine qv_goto (t := 148) dX7_fold_143 (by decide) ?_
            exact h
        · have h := h2 (Decidable.of_not_not c)
          refine qv_bi dX7_fold_129 (by decide) ?_
          refine qv_goto (t := 148) dX7_fold_131 (by decide) ?_
          exact h
    · have h := h2 (Int.not_le.mp c)
      refine qv_g (pc' := 101) (ls' := [(clr l0), some (.int (iI u0))]) (st' := [.int (iI u0)]) dX7_fold_100 (fun _ _ => rfl) ?_
      refine qv_si dX7_fold_101 (by decide) ?_
      obtain ⟨h1, h2⟩ := h
      refine qv_icmp (t := 112) dX7_fold_104 (by decide) (d_ge hu0 (by decide)) (fun c => ?_) (fun c => ?_)
      · have h := h1 c
        refine qv_bi dX7_fold_112 (by decide) ?_
        exact h
      · have h := h2 (Int.not_le.mp c)
        refine qv_bi dX7_fold_107 (by decide) ?_
        refine qv_goto (t := 114) dX7_fold_109 (by decide) ?_
        exact h
  · have h := h2 (Int.not_le.mp c)
    refine qv_g (pc' := 79) (ls' := [(clr l0), some (.int (iI u0))]) (st' := [.int (iI u0)]) dX7_fold_78 (fun _ _ => rfl) ?_
    refine qv_si dX7_fold_79 (by decide) ?_
    obtain ⟨h1, h2⟩ := h
    refine qv_icmp (t := 90) dX7_fold_82 (by decide) (d_ne hu0 (by decide)) (fun c => ?_) (fun c => ?_)
    · have h := h1 c
      refine qv_bi dX7_fold_90 (by decide) ?_
      exact h
    · have h := h2 (Decidable.of_not_not c)
      refine qv_bi dX7_fold_85 (by decide) ?_
      refine qv_goto (t := 92) dX7_fold_87 (by decide) ?_
      exact h
theorem v105_92 {v : VS} {Q : Rs → VS → Prop} {l0 : Option Value} {l1 : Option Value} {u0 : Int}
    (h : Q (Sum.inl (some (.int (iI u0)))) v) (hu0 : (-2147483648 : Int) ≤ u0 ∧ u0 ≤ 2147483647 := by omega) :
    RW g C S m A 105 92 [l0, l1] [.int (iI u0)] v Q := by
  refine qv_R (fun hvv => ?_)
  exact qv_ret dX7_fold_92 rfl h
theorem v105_114 {v : VS} {Q : Rs → VS → Prop} {l0 : Option Value} {l1 : Option Value} {u0 : Int}
    (h : Q (Sum.inl (some (.int (iI u0)))) v) (hu0 : (-2147483648 : Int) ≤ u0 ∧ u0 ≤ 2147483647 := by omega) :
    RW g C S m A 105 114 [l0, l1] [.int (iI u0)] v Q := by
  refine qv_R (fun hvv => ?_)
  exact qv_ret dX7_fold_114 rfl h
theorem v105_148 {v : VS} {Q : Rs → VS → Prop} {l0 : Option Value} {l1 : Option Value} {u0 : Int}
    (h : Q (Sum.inl (some (.int (iI u0)))) v) (hu0 : (-2147483648 : Int) ≤ u0 ∧ u0 ≤ 2147483647 := by omega) :
    RW g C S m A 105 148 [l0, l1] [.int (iI u0)] v Q := by
  refine qv_R (fun hvv => ?_)
  exact qv_ret dX7_fold_148 rfl h
theorem v105_163 {v : VS} {Q : Rs → VS → Prop} {l0 : Option Value} {l1 : Option Value} {u0 : Int}
    (h : Q (Sum.inl (some (.int (iI u0)))) v) (hu0 : (-2147483648 : Int) ≤ u0 ∧ u0 ≤ 2147483647 := by omega) :
    RW g C S m A 105 163 [l0, l1] [.int (iI u0)] v Q := by
  refine qv_R (fun hvv => ?_)
  exact qv_ret dX7_fold_163 rfl h
theorem v106_0 {v : VS} {Q : Rs → VS → Prop} {x0 : Int}
    (h : (x0 < 97 → RW g C S m A 106 12 [some (.int (iI x0))] [] v Q) ∧ (97 ≤ x0 → (x0 ≤ 122 → RW g C S m A 106 19 [some (.int (iI x0))] [] v Q) ∧ (122 < x0 → RW g C S m A 106 12 [some (.int (iI x0))] [] v Q))) (hx0 : (-2147483648 : Int) ≤ x0 ∧ x0 ≤ 2147483647 := by omega) :
    RW g C S m A 106 0 [some (.int (iI x0))] [] v Q := by
  refine qv_R (fun hvv => ?_)
  refine qv_g (pc' := 1) (ls' := [some (.int (iI x0))]) (st' := [.int (iI x0)]) dX7_isSmall_0 (fun _ _ => rfl) ?_
  refine qv_bi dX7_isSmall_1 (by decide) ?_
  obtain ⟨h1, h2⟩ := h
  refine qv_icmp (t := 12) dX7_isSmall_3 (by decide) (d_lt hx0 (by decide)) (fun c => ?_) (fun c => ?_)
  · have h := h1 c
    exact h
  · have h := h2 (Int.not_lt.mp c)
    refine qv_g (pc' := 7) (ls' := [some (.int (iI x0))]) (st' := [.int (iI x0)]) dX7_isSmall_6 (fun _ _ => rfl) ?_
    refine qv_bi dX7_isSmall_7 (by decide) ?_
    obtain ⟨h1, h2⟩ := h
    refine qv_icmp (t := 19) dX7_isSmall_9 (by decide) (d_le hx0 (by decide)) (fun c => ?_) (fun c => ?_)
    · have h := h1 c
      exact h
    · have h := h2 (Int.not_le.mp c)
      exact h
theorem v106_12 {v : VS} {Q : Rs → VS → Prop} {x0 : Int}
    (h : (x0 ≤ 222 → RW g C S m A 106 24 [some (.int (iI x0))] [.int (iI 0)] v Q) ∧ (222 < x0 → RW g C S m A 106 19 [some (.int (iI x0))] [] v Q)) (hx0 : (-2147483648 : Int) ≤ x0 ∧ x0 ≤ 2147483647 := by omega) :
    RW g C S m A 106 12 [some (.int (iI x0))] [] v Q := by
  refine qv_R (fun hvv => ?_)
  refine qv_g (pc' := 13) (ls' := [some (.int (iI x0))]) (st' := [.int (iI x0)]) dX7_isSmall_12 (fun _ _ => rfl) ?_
  refine qv_si dX7_isSmall_13 (by decide) ?_
  obtain ⟨h1, h2⟩ := h
  refine qv_icmp (t := 23) dX7_isSmall_16 (by decide) (d_le hx0 (by decide)) (fun c => ?_) (fun c => ?_)
  · have h := h1 c
    refine qv_ic dX7_isSmall_23 ?_
    exact h
  · have h := h2 (Int.not_le.mp c)
    exact h
theorem v106_19 {v : VS} {Q : Rs → VS → Prop} {l0 : Option Value}
    (h : RW g C S m A 106 24 [l0] [.int (iI 1)] v Q)  :
    RW g C S m A 106 19 [l0] [] v Q := by
  refine qv_R (fun hvv => ?_)
  refine qv_ic dX7_isSmall_19 ?_
  refine qv_goto (t := 24) dX7_isSmall_20 (by decide) ?_
  exact h
theorem v106_24 {v : VS} {Q : Rs → VS → Prop} {l0 : Option Value} {u0 : Int}
    (h : (u0 = 0 ∨ u0 = 1) ∧ Q (Sum.inl (some (.int (iI u0)))) v) (hu0 : (-2147483648 : Int) ≤ u0 ∧ u0 ≤ 2147483647 := by omega) :
    RW g C S m A 106 24 [l0] [.int (iI u0)] v Q := by
  refine qv_R (fun hvv => ?_)
  obtain ⟨hn, h⟩ := h
  exact qv_ret dX7_isSmall_24 (by rcases hn with q | q <;> rw [q] <;> rfl) h
theorem v107_0 {v : VS} {Q : Rs → VS → Prop} {x1 : Int}
    (h : ((0 : Int) ≤ x1 ∧ (x1 : Int) < 128) ∧ ((0 : Int) ≤ v 15 x1 ∧ (v 15 x1 : Int) < 160) ∧ RW g C S m A 106 0 [some (.int (iI (v 13 (v 15 x1))))] [] v (VK g C S m A 107 14 [some (.ref m), some (.int (iI x1))] [] Q)) (hx1 : (-2147483648 : Int) ≤ x1 ∧ x1 ≤ 2147483647 := by omega) :
    RW g C S m A 107 0 [some (.ref m), some (.int (iI x1))] [] v Q := by
  refine qv_R (fun hvv => ?_)
  refine qv_g (pc' := 1) (ls' := [some (.ref m), some (.int (iI x1))]) (st' := [.ref m]) dX7_startsSmall_0 (fun _ _ => rfl) ?_
  refine qv_getA dX7_startsSmall_1 rfl rfl (by decide) ?_
  refine qv_g (pc' := 5) (ls' := [some (.ref m), some (.int (iI x1))]) (st' := [.ref m, .ref (A 13)]) dX7_startsSmall_4 (fun _ _ => rfl) ?_
  refine qv_getA dX7_startsSmall_5 rfl rfl (by decide) ?_
  refine qv_g (pc' := 9) (ls' := [some (.ref m), some (.int (iI x1))]) (st' := [.int (iI x1), .ref (A 15), .ref (A 13)]) dX7_startsSmall_8 (fun _ _ => rfl) ?_
  obtain ⟨hr1, h⟩ := h
  refine qv_iald dX7_startsSmall_9 (by decide) hr1 (by decide) ?_
  obtain ⟨hr2, h⟩ := h
  refine qv_iald dX7_startsSmall_10 (by decide) hr2 (by decide) ?_
  exact qv_call dX7_startsSmall_11 (fun _ _ => ex_calS rfl (by decide)) rfl (Nat.le_of_ble_eq_true rfl) (Nat.le_of_ble_eq_true rfl) (Nat.le_of_ble_eq_true rfl) (fun _ _ => rfl) rfl rfl rfl h
theorem v107_14 {v : VS} {Q : Rs → VS → Prop} {l0 : Option Value} {l1 : Option Value} {u0 : Int}
    (h : (u0 = 0 ∨ u0 = 1) ∧ Q (Sum.inl (some (.int (iI u0)))) v) (hu0 : (-2147483648 : Int) ≤ u0 ∧ u0 ≤ 2147483647 := by omega) :
    RW g C S m A 107 14 [l0, l1] [.int (iI u0)] v Q := by
  refine qv_R (fun hvv => ?_)
  obtain ⟨hn, h⟩ := h
  exact qv_ret dX7_startsSmall_14 (by rcases hn with q | q <;> rw [q] <;> rfl) h
theorem v108_0 {v : VS} {Q : Rs → VS → Prop} {x1 : Int} {x2 : Int} {x3 : Int} {l4 : Option Value}
    (h : ((-2147483648 : Int) ≤ 64 * x1 ∧ 64 * x1 ≤ 2147483647) ∧ ((0 : Int) ≤ x1 ∧ (x1 : Int) < 2) ∧ ((-2147483648 : Int) ≤ (64 * x1) + (v 14 x1) ∧ (64 * x1) + (v 14 x1) ≤ 2147483647) ∧ ((0 : Int) ≤ (64 * x1) + (v 14 x1) ∧ ((64 * x1) + (v 14 x1) : Int) < 128) ∧ (∀ w5, w5 = uv v 15 ((64 * x1) + (v 14 x1)) x2 → ((0 : Int) ≤ (64 * x1) + (v 14 x1) ∧ ((64 * x1) + (v 14 x1) : Int) < 128) ∧ (∀ w7, w7 = uv w5 16 ((64 * x1) + (v 14 x1)) x3 → ((0 : Int) ≤ x1 ∧ (x1 : Int) < 2) ∧ ((0 : Int) ≤ (64 * x1) + (v 14 x1) ∧ ((64 * x1) + (v 14 x1) : Int) < 128) ∧ (∀ w10, w10 = uv w7 17 ((64 * x1) + (v 14 x1)) (w7 19 x1) → ((0 : Int) ≤ x1 ∧ (x1 : Int) < 2) ∧ ((-2147483648 : Int) ≤ (w10 14 x1) + 1 ∧ (w10 14 x1) + 1 ≤ 2147483647) ∧ ((0 : Int) ≤ x1 ∧ (x1 : Int) < 2) ∧ (∀ w14, w14 = uv w10 14 x1 ((w10 14 x1) + 1) → Q (Sum.inl none) w14))))) (hx1 : (-2147483648 : Int) ≤ x1 ∧ x1 ≤ 2147483647 := by omega) (hx2 : (-2147483648 : Int) ≤ x2 ∧ x2 ≤ 2147483647 := by omega) (hx3 : (-2147483648 : Int) ≤ x3 ∧ x3 ≤ 2147483647 := by omega) :
    RW g C S m A 108 0 [some (.ref m), some (.int (iI x1)), some (.int (iI x2)), some (.int (iI x3)), l4] [] v Q := by
  refine qv_R (fun hvv => ?_)
  refine qv_bi dX7_addWord_0 (by decide) ?_
  refine qv_g (pc' := 3) (ls' := [some (.ref m), some (.int (iI x1)), some (.int (iI x2)), some (.int (iI x3)), l4]) (st' := [.int (iI x1), .int (iI 64)]) dX7_addWord_2 (fun _ _ => rfl) ?_
  obtain ⟨hr1, h⟩ := h
  refine qv_mul dX7_addWord_3 ?_
  refine qv_g (pc' := 5) (ls' := [some (.ref m), some (.int (iI x1)), some (.int (iI x2)), some (.int (iI x3)), l4]) (st' := [.ref m, .int (iI (64 * x1))]) dX7_addWord_4 (fun _ _ => rfl) ?_
  refine qv_getA dX7_addWord_5 rfl rfl (by decide) ?_
  refine qv_g (pc' := 9) (ls' := [some (.ref m), some (.int (iI x1)), some (.int (iI x2)), some (.int (iI x3)), l4]) (st' := [.int (iI x1), .ref (A 14), .int (iI (64 * x1))]) dX7_addWord_8 (fun _ _ => rfl) ?_
  obtain ⟨hr2, h⟩ := h
  refine qv_iald dX7_addWord_9 (by decide) hr2 (by decide) ?_
  obtain ⟨hr3, h⟩ := h
  refine qv_add dX7_addWord_10 ?_
  refine qv_g (pc' := 13) (ls' := [some (.ref m), some (.int (iI x1)), some (.int (iI x2)), some (.int (iI x3)), some (.int (iI ((64 * x1) + (v 14 x1))))]) (st' := []) dX7_addWord_11 (fun _ _ => rfl) ?_
  refine qv_g (pc' := 14) (ls' := [some (.ref m), some (.int (iI x1)), some (.int (iI x2)), some (.int (iI x3)), some (.int (iI ((64 * x1) + (v 14 x1))))]) (st' := [.ref m]) dX7_addWord_13 (fun _ _ => rfl) ?_
  refine qv_getA dX7_addWord_14 rfl rfl (by decide) ?_
  refine qv_g (pc' := 19) (ls' := [some (.ref m), some (.int (iI x1)), some (.int (iI x2)), some (.int (iI x3)), some (.int (iI ((64 * x1) + (v 14 x1))))]) (st' := [.int (iI ((64 * x1) + (v 14 x1))), .ref (A 15)]) dX7_addWord_17 (fun _ _ => rfl) ?_
  refine qv_g (pc' := 20) (ls' := [some (.ref m), some (.int (iI x1)), some (.int (iI x2)), some (.int (iI x3)), some (.int (iI ((64 * x1) + (v 14 x1))))]) (st' := [.int (iI x2), .int (iI ((64 * x1) + (v 14 x1))), .ref (A 15)]) dX7_addWord_19 (fun _ _ => rfl) ?_
  obtain ⟨hr4, h⟩ := h
  refine qv_iast dX7_addWord_20 (by decide) hr4 (by decide) hx2 ?_
  generalize ew5 : uv v 15 ((64 * x1) + (v 14 x1)) x2 = w5
  replace h := h _ ew5.symm
  refine qv_R (fun hvw5 => ?_)
  refine qv_g (pc' := 22) (ls' := [some (.ref m), some (.int (iI x1)), some (.int (iI x2)), some (.int (iI x3)), some (.int (iI ((64 * x1) + (v 14 x1))))]) (st' := [.ref m]) dX7_addWord_21 (fun _ _ => rfl) ?_
  refine qv_getA dX7_addWord_22 rfl rfl (by decide) ?_
  refine qv_g (pc' := 27) (ls' := [some (.ref m), some (.int (iI x1)), some (.int (iI x2)), some (.int (iI x3)), some (.int (iI ((64 * x1) + (v 14 x1))))]) (st' := [.int (iI ((64 * x1) + (v 14 x1))), .ref (A 16)]) dX7_addWord_25 (fun _ _ => rfl) ?_
  refine qv_g (pc' := 28) (ls' := [some (.ref m), some (.int (iI x1)), some (.int (iI x2)), some (.int (iI x3)), some (.int (iI ((64 * x1) + (v 14 x1))))]) (st' := [.int (iI x3), .int (iI ((64 * x1) + (v 14 x1))), .ref (A 16)]) dX7_addWord_27 (fun _ _ => rfl) ?_
  obtain ⟨hr6, h⟩ := h
  refine qv_iast dX7_addWord_28 (by decide) hr6 (by decide) hx3 ?_
  generalize ew7 : uv w5 16 ((64 * x1) + (v 14 x1)) x3 = w7
  replace h := h _ ew7.symm
  refine qv_R (fun hvw7 => ?_)
  refine qv_g (pc' := 30) (ls' := [some (.ref m), some (.int (iI x1)), some (.int (iI x2)), some (.int (iI x3)), some (.int (iI ((64 * x1) + (v 14 x1))))]) (st' := [.ref m]) dX7_addWord_29 (fun _ _ => rfl) ?_
  refine qv_getA dX7_addWord_30 rfl rfl (by decide) ?_
  refine qv_g (pc' := 35) (ls' := [some (.ref m), some (.int (iI x1)), some (.int (iI x2)), some (.int (iI x3)), some (.int (iI ((64 * x1) + (v 14 x1))))]) (st' := [.int (iI ((64 * x1) + (v 14 x1))), .ref (A 17)]) dX7_addWord_33 (fun _ _ => rfl) ?_
  refine qv_g (pc' := 36) (ls' := [some (.ref m), some (.int (iI x1)), some (.int (iI x2)), some (.int (iI x3)), some (.int (iI ((64 * x1) + (v 14 x1))))]) (st' := [.ref m, .int (iI ((64 * x1) + (v 14 x1))), .ref (A 17)]) dX7_addWord_35 (fun _ _ => rfl) ?_
  refine qv_getA dX7_addWord_36 rfl rfl (by decide) ?_
  refine qv_g (pc' := 40) (ls' := [some (.ref m), some (.int (iI x1)), some (.int (iI x2)), some (.int (iI x3)), some (.int (iI ((64 * x1) + (v 14 x1))))]) (st' := [.int (iI x1), .ref (A 19), .int (iI ((64 * x1) + (v 14 x1))), .ref (A 17)]) dX7_addWord_39 (fun _ _ => rfl) ?_
  obtain ⟨hr8, h⟩ := h
  refine qv_iald dX7_addWord_40 (by decide) hr8 (by decide) ?_
  obtain ⟨hr9, h⟩ := h
  refine qv_iast dX7_addWord_41 (by decide) hr9 (by decide) (hvw7 _ _) ?_
  generalize ew10 : uv w7 17 ((64 * x1) + (v 14 x1)) (w7 19 x1) = w10
  replace h := h _ ew10.symm
  refine qv_R (fun hvw10 => ?_)
  refine qv_g (pc' := 43) (ls' := [some (.ref m), some (.int (iI x1)), some (.int (iI x2)), some (.int (iI x3)), some (.int (iI ((64 * x1) + (v 14 x1))))]) (st' := [.ref m]) dX7_addWord_42 (fun _ _ => rfl) ?_
  refine qv_getA dX7_addWord_43 rfl rfl (by decide) ?_
  refine qv_g (pc' := 47) (ls' := [some (.ref m), some (.int (iI x1)), some (.int (iI x2)), some (.int (iI x3)), some (.int (iI ((64 * x1) + (v 14 x1))))]) (st' := [.int (iI x1), .ref (A 14)]) dX7_addWord_46 (fun _ _ => rfl) ?_
  refine qv_g (pc' := 48) (ls' := [some (.ref m), some (.int (iI x1)), some (.int (iI x2)), some (.int (iI x3)), some (.int (iI ((64 * x1) + (v 14 x1))))]) (st' := [.int (iI x1), .ref (A 14), .int (iI x1), .ref (A 14)]) dX7_addWord_47 (fun _ _ => rfl) ?_
  obtain ⟨hr11, h⟩ := h
  refine qv_iald dX7_addWord_48 (by decide) hr11 (by decide) ?_
  refine qv_ic dX7_addWord_49 ?_
  obtain ⟨hr12, h⟩ := h
  refine qv_add dX7_addWord_50 ?_
  obtain ⟨hr13, h⟩ := h
  refine qv_iast dX7_addWord_51 (by decide) hr13 (by decide) hr12 ?_
  generalize ew14 : uv w10 14 x1 ((w10 14 x1) + 1) = w14
  replace h := h _ ew14.symm
  refine qv_R (fun hvw14 => ?_)
  exact qv_vret dX7_addWord_52 rfl h
end Blk
