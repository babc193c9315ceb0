theorem crT {c : CS} {a : Nat} (h : CR c) (hK : yK c a = 7) : -2147483648 ≤ ((yT c a).length : Int) ∧ ((yT c a).length : Int) ≤ 2147483647 := by have := (h.2.1 a hK).1; omega
theorem crS {c : CS} {a : Nat} {i : Int} (h : CR c) (hK : yK c a = 7) : -2147483648 ≤ sg (yT c a) i ∧ sg (yT c a) i ≤ 2147483647 := by have := (h.2.1 a hK).2 i; omega
theorem crE {c : CS} {a : Nat} (h : CR c) (hK : yK c a = 1) : -2147483648 ≤ ((yE c a).length : Int) ∧ ((yE c a).length : Int) ≤ 2147483647 := by have := h.2.2 a hK; omega
theorem crX {j : Nat} (h : j < 10) : -2147483648 ≤ ((tx j).length : Int) ∧ ((tx j).length : Int) ≤ 2147483647 := by
  have : ∀ j, j < 10 → (tx j).length ≤ 64 := by decide
  have := this j h
  omega
theorem crY {j : Nat} {x : Int} (h : j < 10) (hx : 0 ≤ x ∧ x < (tx j).length) : -2147483648 ≤ (tx j).getD x.toNat 0 ∧ (tx j).getD x.toNat 0 ≤ 2147483647 := by
  have := tx_in (i := x.toNat) h (by omega)
  omega
section Blk
variable {g : Nat → Nat} {B : Nat} {O : Nat → Prop}
theorem c59_0 {c : CS} {Q : Rs → CS → Prop} {r0 : Nat} {j1 : Nat} {l2 : Option Value}
    (h : CW g B O 59 2 [some (.ref r0), some (.ref (g (100 + j1))), some (.int (iI 0))] [] c Q)  :
    CW g B O 59 0 [some (.ref r0), some (.ref (g (100 + j1))), l2] [] c Q := by
  refine cq_R (fun hRc => ?_)
  refine cq_ic dX5_addString_0 ?_
  refine cq_g (pc' := 2) (ls' := [some (.ref r0), some (.ref (g (100 + j1))), some (.int (iI 0))]) (st' := []) dX5_addString_1 (fun _ _ => rfl) ?_
  exact h
theorem c59_2 {c : CS} {Q : Rs → CS → Prop} {r0 : Nat} {j1 : Nat} {x2 : Int}
    (h : j1 < 10 ∧ (((tx j1).length : Int) ≤ x2 → Q (Sum.inl none) c) ∧ (x2 < ((tx j1).length : Int) → j1 < 10 ∧ ((0 : Int) ≤ x2 ∧ x2 < (tx j1).length) ∧ yK c r0 = 7 ∧ ((0 : Int) ≤ (tx j1).getD (x2).toNat 0 ∧ (tx j1).getD (x2).toNat 0 ≤ 65535) ∧ (yT c r0).length < 1024 ∧ (∀ d9, d9 = wT c r0 (yT c r0 ++ [(tx j1).getD (x2).toNat 0]) → ((-2147483648 : Int) ≤ x2 + 1 ∧ x2 + 1 ≤ 2147483647) ∧ CW g B O 59 2 [some (.ref r0), some (.ref (g (100 + j1))), some (.int (iI (x2 + 1)))] [] d9 Q))) (hx2 : (-2147483648 : Int) ≤ x2 ∧ x2 ≤ 2147483647 := by omega) :
    CW g B O 59 2 [some (.ref r0), some (.ref (g (100 + j1))), some (.int (iI x2))] [] c Q := by
  refine cq_R (fun hRc => ?_)
  refine cq_g (pc' := 3) (ls' := [some (.ref r0), some (.ref (g (100 + j1))), some (.int (iI x2))]) (st' := [.int (iI x2)]) dX5_addString_2 (fun _ _ => rfl) ?_
  refine cq_g (pc' := 4) (ls' := [some (.ref r0), some (.ref (g (100 + j1))), some (.int (iI x2))]) (st' := [.ref (g (100 + j1)), .int (iI x2)]) dX5_addString_3 (fun _ _ => rfl) ?_
  obtain ⟨hK1, h⟩ := h
  refine cq_call (th := false) (rest := [.int (iI x2)]) (ls2 := [some (.ref (g (100 + j1)))]) (pc' := 7) dX5_addString_4 (fun _ _ => ex_calV rfl (by decide)) rfl (Nat.le_of_ble_eq_true rfl) (Nat.le_of_ble_eq_true rfl) (Nat.le_of_ble_eq_true rfl) (cr_rcvS rfl rfl rfl hK1) rfl rfl rfl (fun q => nomatch q) (t150 hK1 ?_)
  show CW g B O 59 7 [some (.ref r0), some (.ref (g (100 + j1))), some (.int (iI x2))] [.int (iI ((tx j1).length : Int)), .int (iI x2)] c Q
  obtain ⟨h1, h2⟩ := h
  refine cq_icmp (t := 25) dX5_addString_7 (by decide) (d_ge hx2 (crX hK1)) (fun q => ?_) (fun q => ?_)
  · have h := h1 q
    exact cq_vret dX5_addString_25 rfl h
  · have h := h2 (Int.not_le.mp q)
    refine cq_g (pc' := 11) (ls' := [some (.ref r0), some (.ref (g (100 + j1))), some (.int (iI x2))]) (st' := [.ref r0]) dX5_addString_10 (fun _ _ => rfl) ?_
    refine cq_g (pc' := 12) (ls' := [some (.ref r0), some (.ref (g (100 + j1))), some (.int (iI x2))]) (st' := [.ref (g (100 + j1)), .ref r0]) dX5_addString_11 (fun _ _ => rfl) ?_
    refine cq_g (pc' := 13) (ls' := [some (.ref r0), some (.ref (g (100 + j1))), some (.int (iI x2))]) (st' := [.int (iI x2), .ref (g (100 + j1)), .ref r0]) dX5_addString_12 (fun _ _ => rfl) ?_
    obtain ⟨hK3, hx5, h⟩ := h
    refine cq_call (th := false) (rest := [.ref r0]) (ls2 := [some (.ref (g (100 + j1))), some (.int (iI x2))]) (pc' := 16) dX5_addString_13 (fun _ _ => ex_calV rfl (by decide)) rfl (Nat.le_of_ble_eq_true rfl) (Nat.le_of_ble_eq_true rfl) (Nat.le_of_ble_eq_true rfl) (cr_rcvS rfl rfl rfl hK3) rfl rfl rfl (fun q => nomatch q) (t151 hK3 hx5 ?_)
    show CW g B O 59 16 [some (.ref r0), some (.ref (g (100 + j1))), some (.int (iI x2))] [.int (iI ((tx j1).getD (x2).toNat 0)), .ref r0] c Q
    obtain ⟨hK6, hx7, hl8, h⟩ := h
    refine cq_call (th := false) (rest := []) (ls2 := [some (.ref r0), some (.int (iI ((tx j1).getD (x2).toNat 0))), none]) (pc' := 19) dX5_addString_16 (fun _ _ => ex_calV rfl (by decide)) rfl (Nat.le_of_ble_eq_true rfl) (Nat.le_of_ble_eq_true rfl) (Nat.le_of_ble_eq_true rfl) (cr_rcv rfl rfl (by decide) hK6) rfl rfl rfl (fun q => nomatch q) (t57 hK6 hx7 hl8 ?_)
    show CW g B O 59 19 [some (.ref r0), some (.ref (g (100 + j1))), some (.int (iI x2))] [] (wT c r0 (yT c r0 ++ [(tx j1).getD (x2).toNat 0])) Q
    generalize ed9 : wT c r0 (yT c r0 ++ [(tx j1).getD (x2).toNat 0]) = d9
    replace h := h _ ed9.symm
    refine cq_R (fun hRd9 => ?_)
    obtain ⟨hr10, h⟩ := h
    refine cq_inc (ls' := [some (.ref r0), some (.ref (g (100 + j1))), some (.int (iI (x2 + 1)))]) dX5_addString_19 rfl (Nat.le_of_ble_eq_true rfl) rfl ?_
    refine cq_goto (t := 2) dX5_addString_22 (by decide) ?_
    exact h
theorem c60_0 {c : CS} {Q : Rs → CS → Prop} {r0 : Nat} {r1 : Nat}
    (h : yK c r1 = 7 ∧ yK c r0 = 7 ∧ CW g B O 61 0 [some (.ref r0), some (.ref r1), some (.int (iI 0)), some (.int (iI ((yT c r1).length : Int))), none] [] c (CK g B O 60 10 [some (.ref r0), some (.ref r1)] [] Q false))  :
    CW g B O 60 0 [some (.ref r0), some (.ref r1)] [] c Q := by
  refine cq_R (fun hRc => ?_)
  refine cq_g (pc' := 1) (ls' := [some (.ref r0), some (.ref r1)]) (st' := [.ref r0]) dX5_addText_0 (fun _ _ => rfl) ?_
  refine cq_g (pc' := 2) (ls' := [some (.ref r0), some (.ref r1)]) (st' := [.ref r1, .ref r0]) dX5_addText_1 (fun _ _ => rfl) ?_
  refine cq_ic dX5_addText_2 ?_
  refine cq_g (pc' := 4) (ls' := [some (.ref r0), some (.ref r1)]) (st' := [.ref r1, .int (iI 0), .ref r1, .ref r0]) dX5_addText_3 (fun _ _ => rfl) ?_
  obtain ⟨hK1, h⟩ := h
  refine cq_tlen dX5_addText_4 rfl hK1 ?_
  obtain ⟨hK2, h⟩ := h
  exact cq_call (th := false) (rest := []) (ls2 := [some (.ref r0), some (.ref r1), some (.int (iI 0)), some (.int (iI ((yT c r1).length : Int))), none]) (pc' := 10) dX5_addText_7 (fun _ _ => ex_calV rfl (by decide)) rfl (Nat.le_of_ble_eq_true rfl) (Nat.le_of_ble_eq_true rfl) (Nat.le_of_ble_eq_true rfl) (cr_rcv rfl rfl (by decide) hK2) rfl rfl rfl (fun q => nomatch q) h
theorem c60_10 {c : CS} {Q : Rs → CS → Prop} {l0 : Option Value} {l1 : Option Value}
    (h : Q (Sum.inl none) c)  :
    CW g B O 60 10 [l0, l1] [] c Q := by
  refine cq_R (fun hRc => ?_)
  exact cq_vret dX5_addText_10 rfl h
theorem c61_0 {c : CS} {Q : Rs → CS → Prop} {r0 : Nat} {r1 : Nat} {x2 : Int} {x3 : Int} {l4 : Option Value}
    (h : CW g B O 61 7 [some (.ref r0), some (.ref r1), some (.int (iI x2)), some (.int (iI x3)), some (.int (iI (max x2 0)))] [] c Q) (hx2 : (-2147483648 : Int) ≤ x2 ∧ x2 ≤ 2147483647 := by omega) (hx3 : (-2147483648 : Int) ≤ x3 ∧ x3 ≤ 2147483647 := by omega) :
    CW g B O 61 0 [some (.ref r0), some (.ref r1), some (.int (iI x2)), some (.int (iI x3)), l4] [] c Q := by
  refine cq_R (fun hRc => ?_)
  refine cq_g (pc' := 1) (ls' := [some (.ref r0), some (.ref r1), some (.int (iI x2)), some (.int (iI x3)), l4]) (st' := [.int (iI x2)]) dX5_addPart_0 (fun _ _ => rfl) ?_
  refine cq_ic dX5_addPart_1 ?_
  refine cq_max dX5_addPart_2 rfl ⟨Nat.le_of_ble_eq_true rfl, Nat.le_of_ble_eq_true rfl, Nat.le_of_ble_eq_true rfl⟩ hx2 (by decide) ?_
  refine cq_g (pc' := 7) (ls' := [some (.ref r0), some (.ref r1), some (.int (iI x2)), some (.int (iI x3)), some (.int (iI (max x2 0)))]) (st' := []) dX5_addPart_5 (fun _ _ => rfl) ?_
  exact h
theorem c61_7 {c : CS} {Q : Rs → CS → Prop} {r0 : Nat} {r1 : Nat} {l2 : Option Value} {x3 : Int} {x4 : Int}
    (h : (x3 ≤ x4 → CW g B O 61 39 [some (.ref r0), some (.ref r1), l2, some (.int (iI x3)), some (.int (iI x4))] [] c Q) ∧ (x4 < x3 → yK c r1 = 7 ∧ (((yT c r1).length : Int) ≤ x4 → CW g B O 61 39 [some (.ref r0), some (.ref r1), l2, some (.int (iI x3)), some (.int (iI x4))] [] c Q) ∧ (x4 < ((yT c r1).length : Int) → yK c r1 = 7 ∧ ((0 : Int) ≤ x4 ∧ x4 < (yT c r1).length) ∧ yK c r0 = 7 ∧ ((0 : Int) ≤ sg (yT c r1) x4 ∧ sg (yT c r1) x4 ≤ 65535) ∧ (yT c r0).length < 1024 ∧ (∀ d7, d7 = wT c r0 (yT c r0 ++ [sg (yT c r1) x4]) → ((-2147483648 : Int) ≤ x4 + 1 ∧ x4 + 1 ≤ 2147483647) ∧ CW g B O 61 7 [some (.ref r0), some (.ref r1), l2, some (.int (iI x3)), some (.int (iI (x4 + 1)))] [] d7 Q)))) (hx3 : (-2147483648 : Int) ≤ x3 ∧ x3 ≤ 2147483647 := by omega) (hx4 : (-2147483648 : Int) ≤ x4 ∧ x4 ≤ 2147483647 := by omega) :
    CW g B O 61 7 [some (.ref r0), some (.ref r1), l2, some (.int (iI x3)), some (.int (iI x4))] [] c Q := by
  refine cq_R (fun hRc => ?_)
  refine cq_g (pc' := 9) (ls' := [some (.ref r0), some (.ref r1), l2, some (.int (iI x3)), some (.int (iI x4))]) (st' := [.int (iI x4)]) dX5_addPart_7 (fun _ _ => rfl) ?_
  refine cq_g (pc' := 10) (ls' := [some (.ref r0), some (.ref r1), l2, some (.int (iI x3)), some (.int (iI x4))]) (st' := [.int (iI x3), .int (iI x4)]) dX5_addPart_9 (fun _ _ => rfl) ?_
  obtain ⟨h1, h2⟩ := h
  refine cq_icmp (t := 39) dX5_addPart_10 (by decide) (d_ge hx4 hx3) (fun q => ?_) (fun q => ?_)
  · have h := h1 q
    exact h
  · have h := h2 (Int.not_le.mp q)
    refine cq_g (pc' := 15) (ls' := [some (.ref r0), some (.ref r1), l2, some (.int (iI x3)), some (.int (iI x4))]) (st' := [.int (iI x4)]) dX5_addPart_13 (fun _ _ => rfl) ?_
    refine cq_g (pc' := 16) (ls' := [some (.ref r0), some (.ref r1), l2, some (.int (iI x3)), some (.int (iI x4))]) (st' := [.ref r1, .int (iI x4)]) dX5_addPart_15 (fun _ _ => rfl) ?_
    obtain ⟨hK1, h⟩ := h
    refine cq_tlen dX5_addPart_16 rfl hK1 ?_
    obtain ⟨h1, h2⟩ := h
    refine cq_icmp (t := 39) dX5_addPart_19 (by decide) (d_ge hx4 (crT hRc hK1)) (fun q => ?_) (fun q => ?_)
    · have h := h1 q
      exact h
    · have h := h2 (Int.not_le.mp q)
      refine cq_g (pc' := 23) (ls' := [some (.ref r0), some (.ref r1), l2, some (.int (iI x3)), some (.int (iI x4))]) (st' := [.ref r0]) dX5_addPart_22 (fun _ _ => rfl) ?_
      refine cq_g (pc' := 24) (ls' := [some (.ref r0), some (.ref r1), l2, some (.int (iI x3)), some (.int (iI x4))]) (st' := [.ref r1, .ref r0]) dX5_addPart_23 (fun _ _ => rfl) ?_
      obtain ⟨hK2, hx3, h⟩ := h
      refine cq_tch (x := x4) dX5_addPart_24 rfl dX5_addPart_27 rfl (fun _ _ _ => rfl) dX5_addPart_29 hK2 hx3 ?_
      obtain ⟨hK4, hx5, hl6, h⟩ := h
      refine cq_call (th := false) (rest := []) (ls2 := [some (.ref r0), some (.int (iI (sg (yT c r1) x4))), none]) (pc' := 33) dX5_addPart_30 (fun _ _ => ex_calV rfl (by decide)) rfl (Nat.le_of_ble_eq_true rfl) (Nat.le_of_ble_eq_true rfl) (Nat.le_of_ble_eq_true rfl) (cr_rcv rfl rfl (by decide) hK4) rfl rfl rfl (fun q => nomatch q) (t57 hK4 hx5 hl6 ?_)
      show CW g B O 61 33 [some (.ref r0), some (.ref r1), l2, some (.int (iI x3)), some (.int (iI x4))] [] (wT c r0 (yT c r0 ++ [sg (yT c r1) x4])) Q
      generalize ed7 : wT c r0 (yT c r0 ++ [sg (yT c r1) x4]) = d7
      replace h := h _ ed7.symm
      refine cq_R (fun hRd7 => ?_)
      obtain ⟨hr8, h⟩ := h
      refine cq_inc (ls' := [some (.ref r0), some (.ref r1), l2, some (.int (iI x3)), some (.int (iI (x4 + 1)))]) dX5_addPart_33 rfl (Nat.le_of_ble_eq_true rfl) rfl ?_
      refine cq_goto (t := 7) dX5_addPart_36 (by decide) ?_
      exact h
theorem c61_39 {c : CS} {Q : Rs → CS → Prop} {l0 : Option Value} {l1 : Option Value} {l2 : Option Value} {l3 : Option Value} {l4 : Option Value}
    (h : Q (Sum.inl none) c)  :
    CW g B O 61 39 [l0, l1, l2, l3, l4] [] c Q := by
  refine cq_R (fun hRc => ?_)
  exact cq_vret dX5_addPart_39 rfl h
theorem c62_0 {c : CS} {Q : Rs → CS → Prop} {r0 : Nat} {x1 : Int}
    (h : (x1 < 10 → CW g B O 62 17 [some (.ref r0), some (.int (iI x1))] [] c Q) ∧ (10 ≤ x1 → ((0 : Int) ≤ x1 ∧ (x1 : Int) ≤ 2147483647) ∧ ((-2147483648 : Int) ≤ 48 + (x1 / 10) ∧ 48 + (x1 / 10) ≤ 2147483647) ∧ yK c r0 = 7 ∧ ((0 : Int) ≤ 48 + (x1 / 10) ∧ 48 + (x1 / 10) ≤ 65535) ∧ (yT c r0).length < 1024 ∧ (∀ d6, d6 = wT c r0 (yT c r0 ++ [48 + (x1 / 10)]) → CW g B O 62 17 [some (.ref r0), some (.int (iI x1))] [] d6 Q))) (hx1 : (-2147483648 : Int) ≤ x1 ∧ x1 ≤ 2147483647 := by omega) :
    CW g B O 62 0 [some (.ref r0), some (.int (iI x1))] [] c Q := by
  refine cq_R (fun hRc => ?_)
  refine cq_g (pc' := 1) (ls' := [some (.ref r0), some (.int (iI x1))]) (st' := [.int (iI x1)]) dX5_addNumber_0 (fun _ _ => rfl) ?_
  refine cq_bi dX5_addNumber_1 (by decide) ?_
  obtain ⟨h1, h2⟩ := h
  refine cq_icmp (t := 17) dX5_addNumber_3 (by decide) (d_lt hx1 (by decide)) (fun q => ?_) (fun q => ?_)
  · have h := h1 q
    exact h
  · have h := h2 (Int.not_lt.mp q)
    refine cq_g (pc' := 7) (ls' := [some (.ref r0), some (.int (iI x1))]) (st' := [.ref r0]) dX5_addNumber_6 (fun _ _ => rfl) ?_
    refine cq_bi dX5_addNumber_7 (by decide) ?_
    refine cq_g (pc' := 10) (ls' := [some (.ref r0), some (.int (iI x1))]) (st' := [.int (iI x1), .int (iI 48), .ref r0]) dX5_addNumber_9 (fun _ _ => rfl) ?_
    refine cq_bi dX5_addNumber_10 (by decide) ?_
    obtain ⟨hr1, h⟩ := h
    refine cq_div dX5_addNumber_12 hr1 (by decide) ?_
    obtain ⟨hr2, h⟩ := h
    refine cq_add dX5_addNumber_13 ?_
    obtain ⟨hK3, hx4, hl5, h⟩ := h
    refine cq_call (th := false) (rest := []) (ls2 := [some (.ref r0), some (.int (iI (48 + (x1 / 10)))), none]) (pc' := 17) dX5_addNumber_14 (fun _ _ => ex_calV rfl (by decide)) rfl (Nat.le_of_ble_eq_true rfl) (Nat.le_of_ble_eq_true rfl) (Nat.le_of_ble_eq_true rfl) (cr_rcv rfl rfl (by decide) hK3) rfl rfl rfl (fun q => nomatch q) (t57 hK3 hx4 hl5 ?_)
    show CW g B O 62 17 [some (.ref r0), some (.int (iI x1))] [] (wT c r0 (yT c r0 ++ [48 + (x1 / 10)])) Q
    generalize ed6 : wT c r0 (yT c r0 ++ [48 + (x1 / 10)]) = d6
    replace h := h _ ed6.symm
    refine cq_R (fun hRd6 => ?_)
    exact h
theorem c62_17 {c : CS} {Q : Rs → CS → Prop} {r0 : Nat} {x1 : Int}
    (h : ((0 : Int) ≤ x1 ∧ (x1 : Int) ≤ 2147483647) ∧ ((-2147483648 : Int) ≤ 48 + (x1 % 10) ∧ 48 + (x1 % 10) ≤ 2147483647) ∧ yK c r0 = 7 ∧ ((0 : Int) ≤ 48 + (x1 % 10) ∧ 48 + (x1 % 10) ≤ 65535) ∧ (yT c r0).length < 1024 ∧ (∀ d6, d6 = wT c r0 (yT c r0 ++ [48 + (x1 % 10)]) → Q (Sum.inl none) d6)) (hx1 : (-2147483648 : Int) ≤ x1 ∧ x1 ≤ 2147483647 := by omega) :
    CW g B O 62 17 [some (.ref r0), some (.int (iI x1))] [] c Q := by
  refine cq_R (fun hRc => ?_)
  refine cq_g (pc' := 18) (ls' := [some (.ref r0), some (.int (iI x1))]) (st' := [.ref r0]) dX5_addNumber_17 (fun _ _ => rfl) ?_
  refine cq_bi dX5_addNumber_18 (by decide) ?_
  refine cq_g (pc' := 21) (ls' := [some (.ref r0), some (.int (iI x1))]) (st' := [.int (iI x1), .int (iI 48), .ref r0]) dX5_addNumber_20 (fun _ _ => rfl) ?_
  refine cq_bi dX5_addNumber_21 (by decide) ?_
  obtain ⟨hr1, h⟩ := h
  refine cq_rem dX5_addNumber_23 hr1 (by decide) ?_
  obtain ⟨hr2, h⟩ := h
  refine cq_add dX5_addNumber_24 ?_
  obtain ⟨hK3, hx4, hl5, h⟩ := h
  refine cq_call (th := false) (rest := []) (ls2 := [some (.ref r0), some (.int (iI (48 + (x1 % 10)))), none]) (pc' := 28) dX5_addNumber_25 (fun _ _ => ex_calV rfl (by decide)) rfl (Nat.le_of_ble_eq_true rfl) (Nat.le_of_ble_eq_true rfl) (Nat.le_of_ble_eq_true rfl) (cr_rcv rfl rfl (by decide) hK3) rfl rfl rfl (fun q => nomatch q) (t57 hK3 hx4 hl5 ?_)
  show CW g B O 62 28 [some (.ref r0), some (.int (iI x1))] [] (wT c r0 (yT c r0 ++ [48 + (x1 % 10)])) Q
  generalize ed6 : wT c r0 (yT c r0 ++ [48 + (x1 % 10)]) = d6
  replace h := h _ ed6.symm
  refine cq_R (fun hRd6 => ?_)
  exact cq_vret dX5_addNumber_28 rfl h
theorem c64_0 {c : CS} {Q : Rs → CS → Prop} {r0 : Nat} {r1 : Nat} {l2 : Option Value} {l3 : Option Value}
    (h : yK c r0 = 7 ∧ yK c r1 = 7 ∧ CW g B O 64 14 [some (.ref r0), some (.ref r1), some (.int (iI (min ((yT c r0).length : Int) ((yT c r1).length : Int)))), some (.int (iI 0))] [] c Q)  :
    CW g B O 64 0 [some (.ref r0), some (.ref r1), l2, l3] [] c Q := by
  refine cq_R (fun hRc => ?_)
  refine cq_g (pc' := 1) (ls' := [some (.ref r0), some (.ref r1), l2, l3]) (st' := [.ref r0]) dX5_comparedTo_0 (fun _ _ => rfl) ?_
  obtain ⟨hK1, h⟩ := h
  refine cq_tlen dX5_comparedTo_1 rfl hK1 ?_
  refine cq_g (pc' := 5) (ls' := [some (.ref r0), some (.ref r1), l2, l3]) (st' := [.ref r1, .int (iI ((yT c r0).length : Int))]) dX5_comparedTo_4 (fun _ _ => rfl) ?_
  obtain ⟨hK2, h⟩ := h
  refine cq_tlen dX5_comparedTo_5 rfl hK2 ?_
  refine cq_min dX5_comparedTo_8 rfl ⟨Nat.le_of_ble_eq_true rfl, Nat.le_of_ble_eq_true rfl, Nat.le_of_ble_eq_true rfl⟩ (crT hRc hK1) (crT hRc hK2) ?_
  refine cq_g (pc' := 12) (ls' := [some (.ref r0), some (.ref r1), some (.int (iI (min ((yT c r0).length : Int) ((yT c r1).length : Int)))), l3]) (st' := []) dX5_comparedTo_11 (fun _ _ => rfl) ?_
  refine cq_ic dX5_comparedTo_12 ?_
  refine cq_g (pc' := 14) (ls' := [some (.ref r0), some (.ref r1), some (.int (iI (min ((yT c r0).length : Int) ((yT c r1).length : Int)))), some (.int (iI 0))]) (st' := []) dX5_comparedTo_13 (fun _ _ => rfl) ?_
  exact h
theorem c64_14 {c : CS} {Q : Rs → CS → Prop} {r0 : Nat} {r1 : Nat} {x2 : Int} {x3 : Int}
    (h : (x2 ≤ x3 → yK c r0 = 7 ∧ yK c r1 = 7 ∧ ((-2147483648 : Int) ≤ ((yT c r0).length : Int) - ((yT c r1).length : Int) ∧ ((yT c r0).length : Int) - ((yT c r1).length : Int) ≤ 2147483647) ∧ Q (Sum.inl (some (.int (iI (((yT c r0).length : Int) - ((yT c r1).length : Int)))))) c) ∧ (x3 < x2 → yK c r0 = 7 ∧ ((0 : Int) ≤ x3 ∧ x3 < (yT c r0).length) ∧ yK c r1 = 7 ∧ ((0 : Int) ≤ x3 ∧ x3 < (yT c r1).length) ∧ (sg (yT c r0) x3 = sg (yT c r1) x3 → ((-2147483648 : Int) ≤ x3 + 1 ∧ x3 + 1 ≤ 2147483647) ∧ CW g B O 64 14 [some (.ref r0), some (.ref r1), some (.int (iI x2)), some (.int (iI (x3 + 1)))] [] c Q) ∧ (¬ sg (yT c r0) x3 = sg (yT c r1) x3 → yK c r0 = 7 ∧ ((0 : Int) ≤ x3 ∧ x3 < (yT c r0).length) ∧ yK c r1 = 7 ∧ ((0 : Int) ≤ x3 ∧ x3 < (yT c r1).length) ∧ ((-2147483648 : Int) ≤ (sg (yT c r0) x3) - (sg (yT c r1) x3) ∧ (sg (yT c r0) x3) - (sg (yT c r1) x3) ≤ 2147483647) ∧ Q (Sum.inl (some (.int (iI ((sg (yT c r0) x3) - (sg (yT c r1) x3)))))) c))) (hx2 : (-2147483648 : Int) ≤ x2 ∧ x2 ≤ 2147483647 := by omega) (hx3 : (-2147483648 : Int) ≤ x3 ∧ x3 ≤ 2147483647 := by omega) :
    CW g B O 64 14 [some (.ref r0), some (.ref r1), some (.int (iI x2)), some (.int (iI x3))] [] c Q := by
  refine cq_R (fun hRc => ?_)
  refine cq_g (pc' := 15) (ls' := [some (.ref r0), some (.ref r1), some (.int (iI x2)), some (.int (iI x3))]) (st' := [.int (iI x3)]) dX5_comparedTo_14 (fun _ _ => rfl) ?_
  refine cq_g (pc' := 16) (ls' := [some (.ref r0), some (.ref r1), some (.int (iI x2)), some (.int (iI x3))]) (st' := [.int (iI x2), .int (iI x3)]) dX5_comparedTo_15 (fun _ _ => rfl) ?_
  obtain ⟨h1, h2⟩ := h
  refine cq_icmp (t := 54) dX5_comparedTo_16 (by decide) (d_ge hx3 hx2) (fun q => ?_) (fun q => ?_)
  · have h := h1 q
    refine cq_g (pc' := 55) (ls' := [some (.ref r0), some (.ref r1), some (.int (iI x2)), some (.int (iI x3))]) (st' := [.ref r0]) dX5_comparedTo_54 (fun _ _ => rfl) ?_
    obtain ⟨hK1, h⟩ := h
    refine cq_tlen dX5_comparedTo_55 rfl hK1 ?_
    refine cq_g (pc' := 59) (ls' := [some (.ref r0), some (.ref r1), some (.int (iI x2)), some (.int (iI x3))]) (st' := [.ref r1, .int (iI ((yT c r0).length : Int))]) dX5_comparedTo_58 (fun _ _ => rfl) ?_
    obtain ⟨hK2, h⟩ := h
    refine cq_tlen dX5_comparedTo_59 rfl hK2 ?_
    obtain ⟨hr3, h⟩ := h
    refine cq_sub dX5_comparedTo_62 ?_
    exact cq_ret dX5_comparedTo_63 rfl h
  · have h := h2 (Int.not_le.mp q)
    refine cq_g (pc' := 20) (ls' := [some (.ref r0), some (.ref r1), some (.int (iI x2)), some (.int (iI x3))]) (st' := [.ref r0]) dX5_comparedTo_19 (fun _ _ => rfl) ?_
    obtain ⟨hK4, hx5, h⟩ := h
    refine cq_tch (x := x3) dX5_comparedTo_20 rfl dX5_comparedTo_23 rfl (fun _ _ _ => rfl) dX5_comparedTo_24 hK4 hx5 ?_
    refine cq_g (pc' := 26) (ls' := [some (.ref r0), some (.ref r1), some (.int (iI x2)), some (.int (iI x3))]) (st' := [.ref r1, .int (iI (sg (yT c r0) x3))]) dX5_comparedTo_25 (fun _ _ => rfl) ?_
    obtain ⟨hK6, hx7, h⟩ := h
    refine cq_tch (x := x3) dX5_comparedTo_26 rfl dX5_comparedTo_29 rfl (fun _ _ _ => rfl) dX5_comparedTo_30 hK6 hx7 ?_
    obtain ⟨h1, h2⟩ := h
    refine cq_icmp (t := 48) dX5_comparedTo_31 (by decide) (d_eq (crS hRc hK4) (crS hRc hK6)) (fun q => ?_) (fun q => ?_)
    · have h := h1 q
      obtain ⟨hr8, h⟩ := h
      refine cq_inc (ls' := [some (.ref r0), some (.ref r1), some (.int (iI x2)), some (.int (iI (x3 + 1)))]) dX5_comparedTo_48 rfl (Nat.le_of_ble_eq_true rfl) rfl ?_
      refine cq_goto (t := 14) dX5_comparedTo_51 (by decide) ?_
      exact h
    · have h := h2 q
      refine cq_g (pc' := 35) (ls' := [some (.ref r0), some (.ref r1), some (.int (iI x2)), some (.int (iI x3))]) (st' := [.ref r0]) dX5_comparedTo_34 (fun _ _ => rfl) ?_
      obtain ⟨hK9, hx10, h⟩ := h
      refine cq_tch (x := x3) dX5_comparedTo_35 rfl dX5_comparedTo_38 rfl (fun _ _ _ => rfl) dX5_comparedTo_39 hK9 hx10 ?_
      refine cq_g (pc' := 41) (ls' := [some (.ref r0), some (.ref r1), some (.int (iI x2)), some (.int (iI x3))]) (st' := [.ref r1, .int (iI (sg (yT c r0) x3))]) dX5_comparedTo_40 (fun _ _ => rfl) ?_
      obtain ⟨hK11, hx12, h⟩ := h
      refine cq_tch (x := x3) dX5_comparedTo_41 rfl dX5_comparedTo_44 rfl (fun _ _ _ => rfl) dX5_comparedTo_45 hK11 hx12 ?_
      obtain ⟨hr13, h⟩ := h
      refine cq_sub dX5_comparedTo_46 ?_
      exact cq_ret dX5_comparedTo_47 rfl h
theorem c65_0 {c : CS} {Q : Rs → CS → Prop} {r0 : Nat} {r1 : Nat}
    (h : yK c r0 = 7 ∧ yK c r1 = 7 ∧ (¬ ((yT c r0).length : Int) = ((yT c r1).length : Int) → CW g B O 65 23 [some (.ref r0), some (.ref r1)] [] c Q) ∧ (((yT c r0).length : Int) = ((yT c r1).length : Int) → yK c r0 = 7 ∧ CW g B O 64 0 [some (.ref r0), some (.ref r1), none, none] [] c (CK g B O 65 16 [some (.ref r0), some (.ref r1)] [] Q false)))  :
    CW g B O 65 0 [some (.ref r0), some (.ref r1)] [] c Q := by
  refine cq_R (fun hRc => ?_)
  refine cq_g (pc' := 1) (ls' := [some (.ref r0), some (.ref r1)]) (st' := [.ref r0]) dX5_sameAs_0 (fun _ _ => rfl) ?_
  obtain ⟨hK1, h⟩ := h
  refine cq_tlen dX5_sameAs_1 rfl hK1 ?_
  refine cq_g (pc' := 5) (ls' := [some (.ref r0), some (.ref r1)]) (st' := [.ref r1, .int (iI ((yT c r0).length : Int))]) dX5_sameAs_4 (fun _ _ => rfl) ?_
  obtain ⟨hK2, h⟩ := h
  refine cq_tlen dX5_sameAs_5 rfl hK2 ?_
  obtain ⟨h1, h2⟩ := h
  refine cq_icmp (t := 23) dX5_sameAs_8 (by decide) (d_ne (crT hRc hK1) (crT hRc hK2)) (fun q => ?_) (fun q => ?_)
  · have h := h1 q
    exact h
  · have h := h2 (Decidable.of_not_not q)
    refine cq_g (pc' := 12) (ls' := [some (.ref r0), some (.ref r1)]) (st' := [.ref r0]) dX5_sameAs_11 (fun _ _ => rfl) ?_
    refine cq_g (pc' := 13) (ls' := [some (.ref r0), some (.ref r1)]) (st' := [.ref r1, .ref r0]) dX5_sameAs_12 (fun _ _ => rfl) ?_
    obtain ⟨hK3, h⟩ := h
    exact cq_call (th := false) (rest := []) (ls2 := [some (.ref r0), some (.ref r1), none, none]) (pc' := 16) dX5_sameAs_13 (fun _ _ => ex_calV rfl (by decide)) rfl (Nat.le_of_ble_eq_true rfl) (Nat.le_of_ble_eq_true rfl) (Nat.le_of_ble_eq_true rfl) (cr_rcv rfl rfl (by decide) hK3) rfl rfl rfl (fun q => nomatch q) h
theorem c65_16 {c : CS} {Q : Rs → CS → Prop} {l0 : Option Value} {l1 : Option Value} {u0 : Int}
    (h : (¬ u0 = 0 → CW g B O 65 23 [l0, l1] [] c Q) ∧ (u0 = 0 → CW g B O 65 24 [l0, l1] [.int (iI 1)] c Q)) (hu0 : (-2147483648 : Int) ≤ u0 ∧ u0 ≤ 2147483647 := by omega) :
    CW g B O 65 16 [l0, l1] [.int (iI u0)] c Q := by
  refine cq_R (fun hRc => ?_)
  obtain ⟨h1, h2⟩ := h
  refine cq_if (t := 23) dX5_sameAs_16 (by decide) (d_ne hu0 (by decide)) (fun q => ?_) (fun q => ?_)
  · have h := h1 q
    exact h
  · have h := h2 (Decidable.of_not_not q)
    refine cq_ic dX5_sameAs_19 ?_
    refine cq_goto (t := 24) dX5_sameAs_20 (by decide) ?_
    exact h
theorem c65_23 {c : CS} {Q : Rs → CS → Prop} {l0 : Option Value} {l1 : Option Value}
    (h : CW g B O 65 24 [l0, l1] [.int (iI 0)] c Q)  :
    CW g B O 65 23 [l0, l1] [] c Q := by
  refine cq_R (fun hRc => ?_)
  refine cq_ic dX5_sameAs_23 ?_
  exact h
theorem c65_24 {c : CS} {Q : Rs → CS → Prop} {l0 : Option Value} {l1 : Option Value} {u0 : Int}
    (h : (u0 = 0 ∨ u0 = 1) ∧ Q (Sum.inl (some (.int (iI u0)))) c) (hu0 : (-2147483648 : Int) ≤ u0 ∧ u0 ≤ 2147483647 := by omega) :
    CW g B O 65 24 [l0, l1] [.int (iI u0)] c Q := by
  refine cq_R (fun hRc => ?_)
  obtain ⟨hn, h⟩ := h
  exact cq_ret dX5_sameAs_24 (by rcases hn with q | q <;> rw [q] <;> rfl) h
end Blk
