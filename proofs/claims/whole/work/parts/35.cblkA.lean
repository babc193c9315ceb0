section Blk
variable {g : Nat → Nat} {B : Nat} {O : Nat → Prop}
theorem c0_0 {c : CS} {Q : Rs → CS → Prop} {r0 : Nat} {x1 : Int} {x2 : Int} {l3 : Option Value}
    (h : yU c + 4100 ≤ B ∧ (∀ b1, yK c b1 = 0 → ∀ d2, d2 = wN c b1 7 0 4100 → yK d2 r0 = 2 ∧ (∀ d4, d4 = wP d2 r0 2 (some b1) → yU d4 + 16 ≤ B ∧ (∀ b6, yK d4 b6 = 0 → ∀ d7, d7 = wN d4 b6 103 8 16 → yK d7 r0 = 2 ∧ (∀ d9, d9 = wP d7 r0 3 (some b6) → yK d9 r0 = 2 ∧ (∀ d11, d11 = wP d9 r0 4 none → yK d11 r0 = 2 ∧ (∀ d13, d13 = wI d11 r0 0 x1 → (x2 < 0 → CW g B O 0 44 [some (.ref r0), some (.int (iI x1)), some (.int (iI x2)), l3] [.ref r0] d13 Q) ∧ (0 ≤ x2 → (x2 ≤ 4 → CW g B O 0 49 [some (.ref r0), some (.int (iI x1)), some (.int (iI x2)), l3] [.int (iI x2), .ref r0] d13 Q) ∧ (4 < x2 → CW g B O 0 44 [some (.ref r0), some (.int (iI x1)), some (.int (iI x2)), l3] [.ref r0] d13 Q))))))))) (hx1 : (-2147483648 : Int) ≤ x1 ∧ x1 ≤ 2147483647 := by omega) (hx2 : (-2147483648 : Int) ≤ x2 ∧ x2 ≤ 2147483647 := by omega) :
    CW g B O 0 0 [some (.ref r0), some (.int (iI x1)), some (.int (iI x2)), l3] [] c Q := by
  refine cq_R (fun hRc => ?_)
  refine cq_g (pc' := 1) (ls' := [some (.ref r0), some (.int (iI x1)), some (.int (iI x2)), l3]) (st' := [.ref r0]) dX0_init_0 (fun _ _ => rfl) ?_
  refine cq_oi dX0_init_1 rfl ⟨Nat.le_of_ble_eq_true rfl, Nat.le_of_ble_eq_true rfl, Nat.le_of_ble_eq_true rfl⟩ ?_
  refine cq_g (pc' := 5) (ls' := [some (.ref r0), some (.int (iI x1)), some (.int (iI x2)), l3]) (st' := [.ref r0]) dX0_init_4 (fun _ _ => rfl) ?_
  obtain ⟨hU3, h⟩ := h
  refine cq_newT dX0_init_5 rfl dX0_init_8 dX0_init_9 rfl rfl (Nat.le_of_ble_eq_true rfl) hU3 (fun b1 hbb1 => ?_)
  replace h := h b1 hbb1
  generalize ed2 : wN c b1 7 0 4100 = d2
  replace h := h _ ed2.symm
  refine cq_R (fun hRd2 => ?_)
  obtain ⟨hK5, h⟩ := h
  refine cq_putP dX0_init_12 rfl (by decide) (Or.inr ⟨rfl, rfl⟩) rfl (by unfold plK; decide) hK5 ?_
  generalize ed4 : wP d2 r0 2 (some b1) = d4
  replace h := h _ ed4.symm
  refine cq_R (fun hRd4 => ?_)
  refine cq_g (pc' := 16) (ls' := [some (.ref r0), some (.int (iI x1)), some (.int (iI x2)), l3]) (st' := [.ref r0]) dX0_init_15 (fun _ _ => rfl) ?_
  refine cq_bi dX0_init_16 (by decide) ?_
  obtain ⟨hU8, h⟩ := h
  refine cq_anew dX0_init_18 rfl (by decide) hU8 (fun b6 hbb6 => ?_)
  replace h := h b6 hbb6
  show CW g B O 0 21 [some (.ref r0), some (.int (iI x1)), some (.int (iI x2)), l3] [.ref b6, .ref r0] (wN d4 b6 103 8 16) Q
  generalize ed7 : wN d4 b6 103 8 16 = d7
  replace h := h _ ed7.symm
  refine cq_R (fun hRd7 => ?_)
  obtain ⟨hK10, h⟩ := h
  refine cq_putP dX0_init_21 rfl (by decide) (Or.inr ⟨rfl, rfl⟩) rfl (by unfold plK; decide) hK10 ?_
  generalize ed9 : wP d7 r0 3 (some b6) = d9
  replace h := h _ ed9.symm
  refine cq_R (fun hRd9 => ?_)
  refine cq_g (pc' := 25) (ls' := [some (.ref r0), some (.int (iI x1)), some (.int (iI x2)), l3]) (st' := [.ref r0]) dX0_init_24 (fun _ _ => rfl) ?_
  refine cq_g (pc' := 26) (ls' := [some (.ref r0), some (.int (iI x1)), some (.int (iI x2)), l3]) (st' := [.null, .ref r0]) dX0_init_25 (fun _ _ => rfl) ?_
  obtain ⟨hK12, h⟩ := h
  refine cq_putN dX0_init_26 rfl (by decide) (Or.inl rfl) rfl (by unfold plK; decide) hK12 ?_
  generalize ed11 : wP d9 r0 4 none = d11
  replace h := h _ ed11.symm
  refine cq_R (fun hRd11 => ?_)
  refine cq_g (pc' := 30) (ls' := [some (.ref r0), some (.int (iI x1)), some (.int (iI x2)), l3]) (st' := [.ref r0]) dX0_init_29 (fun _ _ => rfl) ?_
  refine cq_g (pc' := 31) (ls' := [some (.ref r0), some (.int (iI x1)), some (.int (iI x2)), l3]) (st' := [.int (iI x1), .ref r0]) dX0_init_30 (fun _ _ => rfl) ?_
  obtain ⟨hK14, h⟩ := h
  refine cq_putI dX0_init_31 rfl (by decide) (Or.inr ⟨rfl, rfl⟩) rfl (by unfold plK; decide) (Or.inl rfl) hx1 hK14 ?_
  generalize ed13 : wI d11 r0 0 x1 = d13
  replace h := h _ ed13.symm
  refine cq_R (fun hRd13 => ?_)
  refine cq_g (pc' := 35) (ls' := [some (.ref r0), some (.int (iI x1)), some (.int (iI x2)), l3]) (st' := [.ref r0]) dX0_init_34 (fun _ _ => rfl) ?_
  refine cq_g (pc' := 36) (ls' := [some (.ref r0), some (.int (iI x1)), some (.int (iI x2)), l3]) (st' := [.int (iI x2), .ref r0]) dX0_init_35 (fun _ _ => rfl) ?_
  obtain ⟨h1, h2⟩ := h
  refine cq_if (t := 44) dX0_init_36 (by decide) (d_lt hx2 (by decide)) (fun q => ?_) (fun q => ?_)
  · have h := h1 q
    exact h
  · have h := h2 (Int.not_lt.mp q)
    refine cq_g (pc' := 40) (ls' := [some (.ref r0), some (.int (iI x1)), some (.int (iI x2)), l3]) (st' := [.int (iI x2), .ref r0]) dX0_init_39 (fun _ _ => rfl) ?_
    refine cq_ic dX0_init_40 ?_
    obtain ⟨h1, h2⟩ := h
    refine cq_icmp (t := 48) dX0_init_41 (by decide) (d_le hx2 (by decide)) (fun q => ?_) (fun q => ?_)
    · have h := h1 q
      refine cq_g (pc' := 49) (ls' := [some (.ref r0), some (.int (iI x1)), some (.int (iI x2)), l3]) (st' := [.int (iI x2), .ref r0]) dX0_init_48 (fun _ _ => rfl) ?_
      exact h
    · have h := h2 (Int.not_le.mp q)
      exact h
theorem c0_44 {c : CS} {Q : Rs → CS → Prop} {r0 : Nat} {l1 : Option Value} {l2 : Option Value} {l3 : Option Value} {w0 : Nat}
    (h : CW g B O 0 49 [some (.ref r0), l1, l2, l3] [.int (iI 4), .ref w0] c Q)  :
    CW g B O 0 44 [some (.ref r0), l1, l2, l3] [.ref w0] c Q := by
  refine cq_R (fun hRc => ?_)
  refine cq_ic dX0_init_44 ?_
  refine cq_goto (t := 49) dX0_init_45 (by decide) ?_
  exact h
theorem c0_49 {c : CS} {Q : Rs → CS → Prop} {r0 : Nat} {l1 : Option Value} {l2 : Option Value} {l3 : Option Value} {u0 : Int} {w1 : Nat}
    (h : yK c w1 = 2 ∧ (∀ d1, d1 = wI c w1 1 u0 → CW g B O 0 54 [some (.ref r0), l1, (clr l2), some (.int (iI 0))] [] d1 Q)) (hu0 : (-2147483648 : Int) ≤ u0 ∧ u0 ≤ 2147483647 := by omega) :
    CW g B O 0 49 [some (.ref r0), l1, l2, l3] [.int (iI u0), .ref w1] c Q := by
  refine cq_R (fun hRc => ?_)
  obtain ⟨hK2, h⟩ := h
  refine cq_putI dX0_init_49 rfl (by decide) (Or.inr ⟨rfl, rfl⟩) rfl (by unfold plK; decide) (Or.inl rfl) hu0 hK2 ?_
  generalize ed1 : wI c w1 1 u0 = d1
  replace h := h _ ed1.symm
  refine cq_R (fun hRd1 => ?_)
  refine cq_ic dX0_init_52 ?_
  refine cq_g (pc' := 54) (ls' := [some (.ref r0), l1, (clr l2), some (.int (iI 0))]) (st' := []) dX0_init_53 (fun _ _ => rfl) ?_
  exact h
theorem c0_54 {c : CS} {Q : Rs → CS → Prop} {r0 : Nat} {l1 : Option Value} {l2 : Option Value} {x3 : Int}
    (h : (8 ≤ x3 → Q (Sum.inl none) c) ∧ (x3 < 8 → yK c r0 = 2 ∧ ∃ b2, yP c r0 3 = some b2 ∧ (yU c + 4100 ≤ B ∧ (∀ b3, yK c b3 = 0 → ∀ d4, d4 = wN c b3 7 0 4100 → yK d4 b2 = 103 ∧ yK d4 b3 = 7 ∧ ((0 : Int) ≤ x3 ∧ x3 < yI d4 b2 (-1)) ∧ (∀ d9, d9 = wP d4 b2 x3 (some b3) → ((-2147483648 : Int) ≤ x3 + 1 ∧ x3 + 1 ≤ 2147483647) ∧ CW g B O 0 54 [some (.ref r0), l1, (clr l2), some (.int (iI (x3 + 1)))] [] d9 Q))))) (hx3 : (-2147483648 : Int) ≤ x3 ∧ x3 ≤ 2147483647 := by omega) :
    CW g B O 0 54 [some (.ref r0), l1, l2, some (.int (iI x3))] [] c Q := by
  refine cq_R (fun hRc => ?_)
  refine cq_g (pc' := 55) (ls' := [some (.ref r0), l1, l2, some (.int (iI x3))]) (st' := [.int (iI x3)]) dX0_init_54 (fun _ _ => rfl) ?_
  refine cq_bi dX0_init_55 (by decide) ?_
  obtain ⟨h1, h2⟩ := h
  refine cq_icmp (t := 79) dX0_init_57 (by decide) (d_ge hx3 (by decide)) (fun q => ?_) (fun q => ?_)
  · have h := h1 q
    exact cq_vret dX0_init_79 rfl h
  · have h := h2 (Int.not_le.mp q)
    refine cq_g (pc' := 61) (ls' := [some (.ref r0), l1, l2, some (.int (iI x3))]) (st' := [.ref r0]) dX0_init_60 (fun _ _ => rfl) ?_
    obtain ⟨hK1, b2, hP, h⟩ := h
    refine cq_getP dX0_init_61 rfl (by decide) rfl (by unfold plK; decide) hK1 hP ?_
    refine cq_g (pc' := 65) (ls' := [some (.ref r0), l1, l2, some (.int (iI x3))]) (st' := [.int (iI x3), .ref b2]) dX0_init_64 (fun _ _ => rfl) ?_
    obtain ⟨hU5, h⟩ := h
    refine cq_newT dX0_init_65 rfl dX0_init_68 dX0_init_69 rfl rfl (Nat.le_of_ble_eq_true rfl) hU5 (fun b3 hbb3 => ?_)
    replace h := h b3 hbb3
    generalize ed4 : wN c b3 7 0 4100 = d4
    replace h := h _ ed4.symm
    refine cq_R (fun hRd4 => ?_)
    obtain ⟨hK7, hK8, hx6, h⟩ := h
    refine cq_aast dX0_init_72 hK7 hK8 hx6 ?_
    generalize ed9 : wP d4 b2 x3 (some b3) = d9
    replace h := h _ ed9.symm
    refine cq_R (fun hRd9 => ?_)
    obtain ⟨hr10, h⟩ := h
    refine cq_inc (ls' := [some (.ref r0), l1, (clr l2), some (.int (iI (x3 + 1)))]) dX0_init_73 rfl (Nat.le_of_ble_eq_true rfl) rfl ?_
    refine cq_goto (t := 54) dX0_init_76 (by decide) ?_
    exact h
theorem c1_0 {c : CS} {Q : Rs → CS → Prop} {r0 : Nat} {x1 : Int}
    (h : yK c r0 = 2 ∧ ∃ b2, yP c r0 3 = some b2 ∧ (yK c b2 = 103 ∧ ((0 : Int) ≤ x1 % 8 ∧ x1 % 8 < yI c b2 (-1)) ∧ ∃ b5, yP c b2 (x1 % 8) = some b5 ∧ (Q (Sum.inl (some (.ref b5))) c))) (hx1 : (-2147483648 : Int) ≤ x1 ∧ x1 ≤ 2147483647 := by omega) :
    CW g B O 1 0 [some (.ref r0), some (.int (iI x1))] [] c Q := by
  refine cq_R (fun hRc => ?_)
  refine cq_g (pc' := 1) (ls' := [some (.ref r0), some (.int (iI x1))]) (st' := [.ref r0]) dX0_own_0 (fun _ _ => rfl) ?_
  obtain ⟨hK1, b2, hP, h⟩ := h
  refine cq_getP dX0_own_1 rfl (by decide) rfl (by unfold plK; decide) hK1 hP ?_
  refine cq_g (pc' := 5) (ls' := [some (.ref r0), some (.int (iI x1))]) (st' := [.int (iI x1), .ref b2]) dX0_own_4 (fun _ _ => rfl) ?_
  refine cq_bi dX0_own_5 (by decide) ?_
  refine cq_and dX0_own_7 (iI_and 3 (by decide) _) ?_
  obtain ⟨hK4, hx3, b5, hP, h⟩ := h
  refine cq_aald dX0_own_8 hK4 hx3 hP ?_
  exact cq_aret dX0_own_9 rfl h
theorem c2_0 {c : CS} {Q : Rs → CS → Prop} {r0 : Nat} {x1 : Int}
    (h : yK c r0 = 2 ∧ CW g B O 3 0 [some (.ref r0), some (.int (iI x1)), none, none, none, none] [] c (CK g B O 2 5 [some (.ref r0), some (.int (iI x1))] [] Q false)) (hx1 : (-2147483648 : Int) ≤ x1 ∧ x1 ≤ 2147483647 := by omega) :
    CW g B O 2 0 [some (.ref r0), some (.int (iI x1))] [] c Q := by
  refine cq_R (fun hRc => ?_)
  refine cq_g (pc' := 1) (ls' := [some (.ref r0), some (.int (iI x1))]) (st' := [.ref r0]) dX0_has_0 (fun _ _ => rfl) ?_
  refine cq_g (pc' := 2) (ls' := [some (.ref r0), some (.int (iI x1))]) (st' := [.int (iI x1), .ref r0]) dX0_has_1 (fun _ _ => rfl) ?_
  obtain ⟨hK1, h⟩ := h
  exact cq_call (th := false) (rest := []) (ls2 := [some (.ref r0), some (.int (iI x1)), none, none, none, none]) (pc' := 5) dX0_has_2 (fun _ _ => ex_calV rfl (by decide)) rfl (Nat.le_of_ble_eq_true rfl) (Nat.le_of_ble_eq_true rfl) (Nat.le_of_ble_eq_true rfl) (cr_rcv rfl rfl (by decide) hK1) rfl rfl rfl (fun q => nomatch q) h
theorem c2_5 {c : CS} {Q : Rs → CS → Prop} {l0 : Option Value} {l1 : Option Value} {w0 : Nat}
    (h : yK c w0 = 7 ∧ (yT c w0 = [] → CW g B O 2 16 [l0, l1] [.int (iI 0)] c Q) ∧ (¬ yT c w0 = [] → CW g B O 2 16 [l0, l1] [.int (iI 1)] c Q))  :
    CW g B O 2 5 [l0, l1] [.ref w0] c Q := by
  refine cq_R (fun hRc => ?_)
  obtain ⟨hK1, h1, h2⟩ := h
  refine cq_call (th := false) (rest := []) (ls2 := [some (.ref w0)]) (pc' := 8) dX0_has_5 (fun _ _ => ex_calV rfl (by decide)) rfl (Nat.le_of_ble_eq_true rfl) (Nat.le_of_ble_eq_true rfl) (Nat.le_of_ble_eq_true rfl) (cr_rcv rfl rfl (by decide) hK1) rfl rfl rfl (fun q => nomatch q) (t55 hK1 (fun q => ?_) (fun q => ?_))
  · have h := h1 q
    show CW g B O 2 8 [l0, l1] [.int (iI 1)] c Q
    refine cq_if (t := 15) dX0_has_8 (by decide) (d_ne (by decide) (by decide)) (fun _ => ?_) (fun q => absurd (by decide) q)
    refine cq_ic dX0_has_15 ?_
    exact h
  · have h := h2 q
    show CW g B O 2 8 [l0, l1] [.int (iI 0)] c Q
    refine cq_if (t := 15) dX0_has_8 (by decide) (d_ne (by decide) (by decide)) (fun q => absurd q (by decide)) (fun _ => ?_)
    refine cq_ic dX0_has_11 ?_
    refine cq_goto (t := 16) dX0_has_12 (by decide) ?_
    exact h
theorem c2_16 {c : CS} {Q : Rs → CS → Prop} {l0 : Option Value} {l1 : Option Value} {u0 : Int}
    (h : (u0 = 0 ∨ u0 = 1) ∧ Q (Sum.inl (some (.int (iI u0)))) c) (hu0 : (-2147483648 : Int) ≤ u0 ∧ u0 ≤ 2147483647 := by omega) :
    CW g B O 2 16 [l0, l1] [.int (iI u0)] c Q := by
  refine cq_R (fun hRc => ?_)
  obtain ⟨hn, h⟩ := h
  exact cq_ret dX0_has_16 (by rcases hn with q | q <;> rw [q] <;> rfl) h
theorem c3_0 {c : CS} {Q : Rs → CS → Prop} {r0 : Nat} {x1 : Int} {l2 : Option Value} {l3 : Option Value} {l4 : Option Value} {l5 : Option Value}
    (h : yK c r0 = 2 ∧ CW g B O 1 0 [some (.ref r0), some (.int (iI x1))] [] c (CK g B O 3 5 [some (.ref r0), some (.int (iI x1)), l2, l3, l4, l5] [] Q false)) (hx1 : (-2147483648 : Int) ≤ x1 ∧ x1 ≤ 2147483647 := by omega) :
    CW g B O 3 0 [some (.ref r0), some (.int (iI x1)), l2, l3, l4, l5] [] c Q := by
  refine cq_R (fun hRc => ?_)
  refine cq_g (pc' := 1) (ls' := [some (.ref r0), some (.int (iI x1)), l2, l3, l4, l5]) (st' := [.ref r0]) dX0_value_0 (fun _ _ => rfl) ?_
  refine cq_g (pc' := 2) (ls' := [some (.ref r0), some (.int (iI x1)), l2, l3, l4, l5]) (st' := [.int (iI x1), .ref r0]) dX0_value_1 (fun _ _ => rfl) ?_
  obtain ⟨hK1, h⟩ := h
  exact cq_call (th := false) (rest := []) (ls2 := [some (.ref r0), some (.int (iI x1))]) (pc' := 5) dX0_value_2 (fun _ _ => ex_calV rfl (by decide)) rfl (Nat.le_of_ble_eq_true rfl) (Nat.le_of_ble_eq_true rfl) (Nat.le_of_ble_eq_true rfl) (cr_rcv rfl rfl (by decide) hK1) rfl rfl rfl (fun q => nomatch q) h
theorem c3_5 {c : CS} {Q : Rs → CS → Prop} {r0 : Nat} {x1 : Int} {l2 : Option Value} {l3 : Option Value} {l4 : Option Value} {l5 : Option Value} {w0 : Nat}
    (h : yK c r0 = 2 ∧ (yP c r0 4 = none → CW g B O 3 14 [some (.ref r0), some (.int (iI x1)), some (.ref w0), some .null, some (.int (iI 0)), l5] [] c Q) ∧ (∀ b2, yP c r0 4 = some b2 → CW g B O 3 14 [some (.ref r0), some (.int (iI x1)), some (.ref w0), some (.ref b2), some (.int (iI 0)), l5] [] c Q)) (hx1 : (-2147483648 : Int) ≤ x1 ∧ x1 ≤ 2147483647 := by omega) :
    CW g B O 3 5 [some (.ref r0), some (.int (iI x1)), l2, l3, l4, l5] [.ref w0] c Q := by
  refine cq_R (fun hRc => ?_)
  refine cq_g (pc' := 6) (ls' := [some (.ref r0), some (.int (iI x1)), some (.ref w0), l3, l4, l5]) (st' := []) dX0_value_5 (fun _ _ => rfl) ?_
  refine cq_g (pc' := 7) (ls' := [some (.ref r0), some (.int (iI x1)), some (.ref w0), l3, l4, l5]) (st' := [.ref r0]) dX0_value_6 (fun _ _ => rfl) ?_
  obtain ⟨hK1, h1, h2⟩ := h
  cases hP : yP c r0 4 with
  | none =>
    have h := h1 hP
    refine cq_getN dX0_value_7 rfl (by decide) rfl (by unfold plK; decide) hK1 hP ?_
    refine cq_g (pc' := 11) (ls' := [some (.ref r0), some (.int (iI x1)), some (.ref w0), some .null, l4, l5]) (st' := []) dX0_value_10 (fun _ _ => rfl) ?_
    refine cq_ic dX0_value_11 ?_
    refine cq_g (pc' := 14) (ls' := [some (.ref r0), some (.int (iI x1)), some (.ref w0), some .null, some (.int (iI 0)), l5]) (st' := []) dX0_value_12 (fun _ _ => rfl) ?_
    exact h
  | some b2 =>
    have h := h2 b2 hP
    refine cq_getP dX0_value_7 rfl (by decide) rfl (by unfold plK; decide) hK1 hP ?_
    refine cq_g (pc' := 11) (ls' := [some (.ref r0), some (.int (iI x1)), some (.ref w0), some (.ref b2), l4, l5]) (st' := []) dX0_value_10 (fun _ _ => rfl) ?_
    refine cq_ic dX0_value_11 ?_
    refine cq_g (pc' := 14) (ls' := [some (.ref r0), some (.int (iI x1)), some (.ref w0), some (.ref b2), some (.int (iI 0)), l5]) (st' := []) dX0_value_12 (fun _ _ => rfl) ?_
    exact h
theorem c3_14N {c : CS} {Q : Rs → CS → Prop} {l0 : Option Value} {x1 : Int} {r2 : Nat} {x4 : Int} {l5 : Option Value}
    (h : (24 ≤ x4 → CW g B O 3 90 [l0, some (.int (iI x1)), some (.ref r2), some .null, some (.int (iI x4)), l5] [] c Q) ∧ (x4 < 24 → (x1 = 1 → CW g B O 3 90 [l0, some (.int (iI x1)), some (.ref r2), some .null, some (.int (iI x4)), l5] [] c Q) ∧ (¬ x1 = 1 → CW g B O 3 90 [l0, some (.int (iI x1)), some (.ref r2), some .null, some (.int (iI x4)), l5] [] c Q))) (hx1 : (-2147483648 : Int) ≤ x1 ∧ x1 ≤ 2147483647 := by omega) (hx4 : (-2147483648 : Int) ≤ x4 ∧ x4 ≤ 2147483647 := by omega) :
    CW g B O 3 14 [l0, some (.int (iI x1)), some (.ref r2), some .null, some (.int (iI x4)), l5] [] c Q := by
  refine cq_R (fun hRc => ?_)
  refine cq_g (pc' := 16) (ls' := [l0, some (.int (iI x1)), some (.ref r2), some .null, some (.int (iI x4)), l5]) (st' := [.int (iI x4)]) dX0_value_14 (fun _ _ => rfl) ?_
  refine cq_bi dX0_value_16 (by decide) ?_
  obtain ⟨h1, h2⟩ := h
  refine cq_icmp (t := 90) dX0_value_18 (by decide) (d_ge hx4 (by decide)) (fun q => ?_) (fun q => ?_)
  · have h := h1 q
    exact h
  · have h := h2 (Int.not_le.mp q)
    refine cq_g (pc' := 22) (ls' := [l0, some (.int (iI x1)), some (.ref r2), some .null, some (.int (iI x4)), l5]) (st' := [.int (iI x1)]) dX0_value_21 (fun _ _ => rfl) ?_
    refine cq_ic dX0_value_22 ?_
    obtain ⟨h1, h2⟩ := h
    refine cq_icmp (t := 90) dX0_value_23 (by decide) (d_eq hx1 (by decide)) (fun q => ?_) (fun q => ?_)
    · have h := h1 q
      exact h
    · have h := h2 q
      refine cq_g (pc' := 27) (ls' := [l0, some (.int (iI x1)), some (.ref r2), some .null, some (.int (iI x4)), l5]) (st' := [.null]) dX0_value_26 (fun _ _ => rfl) ?_
      refine cq_nullN (t := 90) dX0_value_27 (by decide) ?_
      exact h
theorem c3_14R {c : CS} {Q : Rs → CS → Prop} {l0 : Option Value} {x1 : Int} {r2 : Nat} {r3 : Nat} {x4 : Int} {l5 : Option Value}
    (h : (24 ≤ x4 → CW g B O 3 90 [l0, some (.int (iI x1)), some (.ref r2), some (.ref r3), some (.int (iI x4)), l5] [] c Q) ∧ (x4 < 24 → (x1 = 1 → CW g B O 3 90 [l0, some (.int (iI x1)), some (.ref r2), some (.ref r3), some (.int (iI x4)), l5] [] c Q) ∧ (¬ x1 = 1 → yK c r2 = 7 ∧ (yT c r2 = [] → (¬ x1 = 6 → CW g B O 3 61 [l0, some (.int (iI x1)), some (.ref r2), some (.ref r3), some (.int (iI x4)), l5] [] c Q) ∧ (x1 = 6 → yK c r3 = 2 ∧ CW g B O 1 0 [some (.ref r3), some (.int (iI 1))] [] c (CK g B O 3 51 [l0, some (.int (iI x1)), some (.ref r2), some (.ref r3), some (.int (iI x4)), l5] [] Q false))) ∧ (¬ yT c r2 = [] → CW g B O 3 90 [l0, some (.int (iI x1)), some (.ref r2), some (.ref r3), some (.int (iI x4)), l5] [] c Q)))) (hx1 : (-2147483648 : Int) ≤ x1 ∧ x1 ≤ 2147483647 := by omega) (hx4 : (-2147483648 : Int) ≤ x4 ∧ x4 ≤ 2147483647 := by omega) :
    CW g B O 3 14 [l0, some (.int (iI x1)), some (.ref r2), some (.ref r3), some (.int (iI x4)), l5] [] c Q := by
  refine cq_R (fun hRc => ?_)
  refine cq_g (pc' := 16) (ls' := [l0, some (.int (iI x1)), some (.ref r2), some (.ref r3), some (.int (iI x4)), l5]) (st' := [.int (iI x4)]) dX0_value_14 (fun _ _ => rfl) ?_
  refine cq_bi dX0_value_16 (by decide) ?_
  obtain ⟨h1, h2⟩ := h
  refine cq_icmp (t := 90) dX0_value_18 (by decide) (d_ge hx4 (by decide)) (fun q => ?_) (fun q => ?_)
  · have h := h1 q
    exact h
  · have h := h2 (Int.not_le.mp q)
    refine cq_g (pc' := 22) (ls' := [l0, some (.int (iI x1)), some (.ref r2), some (.ref r3), some (.int (iI x4)), l5]) (st' := [.int (iI x1)]) dX0_value_21 (fun _ _ => rfl) ?_
    refine cq_ic dX0_value_22 ?_
    obtain ⟨h1, h2⟩ := h
    refine cq_icmp (t := 90) dX0_value_23 (by decide) (d_eq hx1 (by decide)) (fun q => ?_) (fun q => ?_)
    · have h := h1 q
      exact h
    · have h := h2 q
      refine cq_g (pc' := 27) (ls' := [l0, some (.int (iI x1)), some (.ref r2), some (.ref r3), some (.int (iI x4)), l5]) (st' := [.ref r3]) dX0_value_26 (fun _ _ => rfl) ?_
      refine cq_nullR dX0_value_27 ?_
      refine cq_g (pc' := 31) (ls' := [l0, some (.int (iI x1)), some (.ref r2), some (.ref r3), some (.int (iI x4)), l5]) (st' := [.ref r2]) dX0_value_30 (fun _ _ => rfl) ?_
      obtain ⟨hK1, h1, h2⟩ := h
      refine cq_call (th := false) (rest := []) (ls2 := [some (.ref r2)]) (pc' := 34) dX0_value_31 (fun _ _ => ex_calV rfl (by decide)) rfl (Nat.le_of_ble_eq_true rfl) (Nat.le_of_ble_eq_true rfl) (Nat.le_of_ble_eq_true rfl) (cr_rcv rfl rfl (by decide) hK1) rfl rfl rfl (fun q => nomatch q) (t55 hK1 (fun q => ?_) (fun q => ?_))
      · have h := h1 q
        show CW g B O 3 34 [l0, some (.int (iI x1)), some (.ref r2), some (.ref r3), some (.int (iI x4)), l5] [.int (iI 1)] c Q
        refine cq_if (t := 40) dX0_value_34 (by decide) (d_ne (by decide) (by decide)) (fun _ => ?_) (fun q => absurd (by decide) q)
        refine cq_g (pc' := 41) (ls' := [l0, some (.int (iI x1)), some (.ref r2), some (.ref r3), some (.int (iI x4)), l5]) (st' := [.int (iI x1)]) dX0_value_40 (fun _ _ => rfl) ?_
        refine cq_bi dX0_value_41 (by decide) ?_
        obtain ⟨h1, h2⟩ := h
        refine cq_icmp (t := 61) dX0_value_43 (by decide) (d_ne hx1 (by decide)) (fun q => ?_) (fun q => ?_)
        · have h := h1 q
          exact h
        · have h := h2 (Decidable.of_not_not q)
          refine cq_g (pc' := 47) (ls' := [l0, some (.int (iI x1)), some (.ref r2), some (.ref r3), some (.int (iI x4)), l5]) (st' := [.ref r3]) dX0_value_46 (fun _ _ => rfl) ?_
          refine cq_ic dX0_value_47 ?_
          obtain ⟨hK2, h⟩ := h
          exact cq_call (th := false) (rest := []) (ls2 := [some (.ref r3), some (.int (iI 1))]) (pc' := 51) dX0_value_48 (fun _ _ => ex_calV rfl (by decide)) rfl (Nat.le_of_ble_eq_true rfl) (Nat.le_of_ble_eq_true rfl) (Nat.le_of_ble_eq_true rfl) (cr_rcv rfl rfl (by decide) hK2) rfl rfl rfl (fun q => nomatch q) h
      · have h := h2 q
        show CW g B O 3 34 [l0, some (.int (iI x1)), some (.ref r2), some (.ref r3), some (.int (iI x4)), l5] [.int (iI 0)] c Q
        refine cq_if (t := 40) dX0_value_34 (by decide) (d_ne (by decide) (by decide)) (fun q => absurd q (by decide)) (fun _ => ?_)
        refine cq_goto (t := 90) dX0_value_37 (by decide) ?_
        exact h
theorem c3_51N {c : CS} {Q : Rs → CS → Prop} {l0 : Option Value} {x1 : Int} {l2 : Option Value} {x4 : Int} {l5 : Option Value} {w0 : Nat}
    (h : yK c w0 = 7 ∧ (yT c w0 = [] → CW g B O 3 61 [l0, some (.int (iI x1)), l2, some .null, some (.int (iI x4)), l5] [] c Q) ∧ (¬ yT c w0 = [] → CW g B O 3 62 [l0, some (.int (iI x1)), l2, some .null, some (.int (iI x4)), l5] [.int (iI 1)] c Q)) (hx1 : (-2147483648 : Int) ≤ x1 ∧ x1 ≤ 2147483647 := by omega) (hx4 : (-2147483648 : Int) ≤ x4 ∧ x4 ≤ 2147483647 := by omega) :
    CW g B O 3 51 [l0, some (.int (iI x1)), l2, some .null, some (.int (iI x4)), l5] [.ref w0] c Q := by
  refine cq_R (fun hRc => ?_)
  obtain ⟨hK1, h1, h2⟩ := h
  refine cq_call (th := false) (rest := []) (ls2 := [some (.ref w0)]) (pc' := 54) dX0_value_51 (fun _ _ => ex_calV rfl (by decide)) rfl (Nat.le_of_ble_eq_true rfl) (Nat.le_of_ble_eq_true rfl) (Nat.le_of_ble_eq_true rfl) (cr_rcv rfl rfl (by decide) hK1) rfl rfl rfl (fun q => nomatch q) (t55 hK1 (fun q => ?_) (fun q => ?_))
  · have h := h1 q
    show CW g B O 3 54 [l0, some (.int (iI x1)), l2, some .null, some (.int (iI x4)), l5] [.int (iI 1)] c Q
    refine cq_if (t := 61) dX0_value_54 (by decide) (d_ne (by decide) (by decide)) (fun _ => ?_) (fun q => absurd (by decide) q)
    exact h
  · have h := h2 q
    show CW g B O 3 54 [l0, some (.int (iI x1)), l2, some .null, some (.int (iI x4)), l5] [.int (iI 0)] c Q
    refine cq_if (t := 61) dX0_value_54 (by decide) (d_ne (by decide) (by decide)) (fun q => absurd q (by decide)) (fun _ => ?_)
    refine cq_ic dX0_value_57 ?_
    refine cq_goto (t := 62) dX0_value_58 (by decide) ?_
    exact h
theorem c3_51R {c : CS} {Q : Rs → CS → Prop} {l0 : Option Value} {x1 : Int} {l2 : Option Value} {r3 : Nat} {x4 : Int} {l5 : Option Value} {w0 : Nat}
    (h : yK c w0 = 7 ∧ (yT c w0 = [] → CW g B O 3 61 [l0, some (.int (iI x1)), l2, some (.ref r3), some (.int (iI x4)), l5] [] c Q) ∧ (¬ yT c w0 = [] → CW g B O 3 62 [l0, some (.int (iI x1)), l2, some (.ref r3), some (.int (iI x4)), l5] [.int (iI 1)] c Q)) (hx1 : (-2147483648 : Int) ≤ x1 ∧ x1 ≤ 2147483647 := by omega) (hx4 : (-2147483648 : Int) ≤ x4 ∧ x4 ≤ 2147483647 := by omega) :
    CW g B O 3 51 [l0, some (.int (iI x1)), l2, some (.ref r3), some (.int (iI x4)), l5] [.ref w0] c Q := by
  refine cq_R (fun hRc => ?_)
  obtain ⟨hK1, h1, h2⟩ := h
  refine cq_call (th := false) (rest := []) (ls2 := [some (.ref w0)]) (pc' := 54) dX0_value_51 (fun _ _ => ex_calV rfl (by decide)) rfl (Nat.le_of_ble_eq_true rfl) (Nat.le_of_ble_eq_true rfl) (Nat.le_of_ble_eq_true rfl) (cr_rcv rfl rfl (by decide) hK1) rfl rfl rfl (fun q => nomatch q) (t55 hK1 (fun q => ?_) (fun q => ?_))
  · have h := h1 q
    show CW g B O 3 54 [l0, some (.int (iI x1)), l2, some (.ref r3), some (.int (iI x4)), l5] [.int (iI 1)] c Q
    refine cq_if (t := 61) dX0_value_54 (by decide) (d_ne (by decide) (by decide)) (fun _ => ?_) (fun q => absurd (by decide) q)
    exact h
  · have h := h2 q
    show CW g B O 3 54 [l0, some (.int (iI x1)), l2, some (.ref r3), some (.int (iI x4)), l5] [.int (iI 0)] c Q
    refine cq_if (t := 61) dX0_value_54 (by decide) (d_ne (by decide) (by decide)) (fun q => absurd q (by decide)) (fun _ => ?_)
    refine cq_ic dX0_value_57 ?_
    refine cq_goto (t := 62) dX0_value_58 (by decide) ?_
    exact h
theorem c3_61N {c : CS} {Q : Rs → CS → Prop} {l0 : Option Value} {x1 : Int} {l2 : Option Value} {x4 : Int} {l5 : Option Value}
    (h : CW g B O 3 62 [l0, some (.int (iI x1)), l2, some .null, some (.int (iI x4)), l5] [.int (iI 0)] c Q) (hx1 : (-2147483648 : Int) ≤ x1 ∧ x1 ≤ 2147483647 := by omega) (hx4 : (-2147483648 : Int) ≤ x4 ∧ x4 ≤ 2147483647 := by omega) :
    CW g B O 3 61 [l0, some (.int (iI x1)), l2, some .null, some (.int (iI x4)), l5] [] c Q := by
  refine cq_R (fun hRc => ?_)
  refine cq_ic dX0_value_61 ?_
  exact h
theorem c3_61R {c : CS} {Q : Rs → CS → Prop} {l0 : Option Value} {x1 : Int} {l2 : Option Value} {r3 : Nat} {x4 : Int} {l5 : Option Value}
    (h : CW g B O 3 62 [l0, some (.int (iI x1)), l2, some (.ref r3), some (.int (iI x4)), l5] [.int (iI 0)] c Q) (hx1 : (-2147483648 : Int) ≤ x1 ∧ x1 ≤ 2147483647 := by omega) (hx4 : (-2147483648 : Int) ≤ x4 ∧ x4 ≤ 2147483647 := by omega) :
    CW g B O 3 61 [l0, some (.int (iI x1)), l2, some (.ref r3), some (.int (iI x4)), l5] [] c Q := by
  refine cq_R (fun hRc => ?_)
  refine cq_ic dX0_value_61 ?_
  exact h
theorem c3_62N {c : CS} {Q : Rs → CS → Prop} {l0 : Option Value} {x1 : Int} {l2 : Option Value} {x4 : Int} {l5 : Option Value} {u0 : Int}
    (h : (u0 = 0 → CW g B O 3 75 [l0, some (.int (iI x1)), l2, some .null, some (.int (iI x4)), some (.int (iI u0))] [.int (iI x1), .null] c Q) ∧ (¬ u0 = 0 → CW g B O 3 75 [l0, some (.int (iI x1)), l2, some .null, some (.int (iI x4)), some (.int (iI u0))] [.int (iI 1), .null] c Q)) (hx1 : (-2147483648 : Int) ≤ x1 ∧ x1 ≤ 2147483647 := by omega) (hx4 : (-2147483648 : Int) ≤ x4 ∧ x4 ≤ 2147483647 := by omega) (hu0 : (-2147483648 : Int) ≤ u0 ∧ u0 ≤ 2147483647 := by omega) :
    CW g B O 3 62 [l0, some (.int (iI x1)), l2, some .null, some (.int (iI x4)), l5] [.int (iI u0)] c Q := by
  refine cq_R (fun hRc => ?_)
  refine cq_g (pc' := 64) (ls' := [l0, some (.int (iI x1)), l2, some .null, some (.int (iI x4)), some (.int (iI u0))]) (st' := []) dX0_value_62 (fun _ _ => rfl) ?_
  refine cq_g (pc' := 65) (ls' := [l0, some (.int (iI x1)), l2, some .null, some (.int (iI x4)), some (.int (iI u0))]) (st' := [.null]) dX0_value_64 (fun _ _ => rfl) ?_
  refine cq_g (pc' := 67) (ls' := [l0, some (.int (iI x1)), l2, some .null, some (.int (iI x4)), some (.int (iI u0))]) (st' := [.int (iI u0), .null]) dX0_value_65 (fun _ _ => rfl) ?_
  obtain ⟨h1, h2⟩ := h
  refine cq_if (t := 74) dX0_value_67 (by decide) (d_eq hu0 (by decide)) (fun q => ?_) (fun q => ?_)
  · have h := h1 q
    refine cq_g (pc' := 75) (ls' := [l0, some (.int (iI x1)), l2, some .null, some (.int (iI x4)), some (.int (iI u0))]) (st' := [.int (iI x1), .null]) dX0_value_74 (fun _ _ => rfl) ?_
    exact h
  · have h := h2 q
    refine cq_ic dX0_value_70 ?_
    refine cq_goto (t := 75) dX0_value_71 (by decide) ?_
    exact h
theorem c3_62R {c : CS} {Q : Rs → CS → Prop} {l0 : Option Value} {x1 : Int} {l2 : Option Value} {r3 : Nat} {x4 : Int} {l5 : Option Value} {u0 : Int}
    (h : (u0 = 0 → CW g B O 3 75 [l0, some (.int (iI x1)), l2, some (.ref r3), some (.int (iI x4)), some (.int (iI u0))] [.int (iI x1), .ref r3] c Q) ∧ (¬ u0 = 0 → CW g B O 3 75 [l0, some (.int (iI x1)), l2, some (.ref r3), some (.int (iI x4)), some (.int (iI u0))] [.int (iI 1), .ref r3] c Q)) (hx1 : (-2147483648 : Int) ≤ x1 ∧ x1 ≤ 2147483647 := by omega) (hx4 : (-2147483648 : Int) ≤ x4 ∧ x4 ≤ 2147483647 := by omega) (hu0 : (-2147483648 : Int) ≤ u0 ∧ u0 ≤ 2147483647 := by omega) :
    CW g B O 3 62 [l0, some (.int (iI x1)), l2, some (.ref r3), some (.int (iI x4)), l5] [.int (iI u0)] c Q := by
  refine cq_R (fun hRc => ?_)
  refine cq_g (pc' := 64) (ls' := [l0, some (.int (iI x1)), l2, some (.ref r3), some (.int (iI x4)), some (.int (iI u0))]) (st' := []) dX0_value_62 (fun _ _ => rfl) ?_
  refine cq_g (pc' := 65) (ls' := [l0, some (.int (iI x1)), l2, some (.ref r3), some (.int (iI x4)), some (.int (iI u0))]) (st' := [.ref r3]) dX0_value_64 (fun _ _ => rfl) ?_
  refine cq_g (pc' := 67) (ls' := [l0, some (.int (iI x1)), l2, some (.ref r3), some (.int (iI x4)), some (.int (iI u0))]) (st' := [.int (iI u0), .ref r3]) dX0_value_65 (fun _ _ => rfl) ?_
  obtain ⟨h1, h2⟩ := h
  refine cq_if (t := 74) dX0_value_67 (by decide) (d_eq hu0 (by decide)) (fun q => ?_) (fun q => ?_)
  · have h := h1 q
    refine cq_g (pc' := 75) (ls' := [l0, some (.int (iI x1)), l2, some (.ref r3), some (.int (iI x4)), some (.int (iI u0))]) (st' := [.int (iI x1), .ref r3]) dX0_value_74 (fun _ _ => rfl) ?_
    exact h
  · have h := h2 q
    refine cq_ic dX0_value_70 ?_
    refine cq_goto (t := 75) dX0_value_71 (by decide) ?_
    exact h
theorem c3_75N {c : CS} {Q : Rs → CS → Prop} {l0 : Option Value} {x1 : Int} {l2 : Option Value} {x4 : Int} {l5 : Option Value} {u0 : Int}
    (h : False) (hx1 : (-2147483648 : Int) ≤ x1 ∧ x1 ≤ 2147483647 := by omega) (hx4 : (-2147483648 : Int) ≤ x4 ∧ x4 ≤ 2147483647 := by omega) (hu0 : (-2147483648 : Int) ≤ u0 ∧ u0 ≤ 2147483647 := by omega) :
    CW g B O 3 75 [l0, some (.int (iI x1)), l2, some .null, some (.int (iI x4)), l5] [.int (iI u0), .null] c Q := by
  refine cq_R (fun hRc => ?_)
  exact absurd h id
theorem c3_75R {c : CS} {Q : Rs → CS → Prop} {l0 : Option Value} {x1 : Int} {l2 : Option Value} {r3 : Nat} {x4 : Int} {l5 : Option Value} {u0 : Int} {w1 : Nat}
    (h : yK c w1 = 2 ∧ CW g B O 1 0 [some (.ref w1), some (.int (iI u0))] [] c (CK g B O 3 78 [l0, some (.int (iI x1)), l2, some (.ref r3), some (.int (iI x4)), l5] [] Q false)) (hx1 : (-2147483648 : Int) ≤ x1 ∧ x1 ≤ 2147483647 := by omega) (hx4 : (-2147483648 : Int) ≤ x4 ∧ x4 ≤ 2147483647 := by omega) (hu0 : (-2147483648 : Int) ≤ u0 ∧ u0 ≤ 2147483647 := by omega) :
    CW g B O 3 75 [l0, some (.int (iI x1)), l2, some (.ref r3), some (.int (iI x4)), l5] [.int (iI u0), .ref w1] c Q := by
  refine cq_R (fun hRc => ?_)
  obtain ⟨hK1, h⟩ := h
  exact cq_call (th := false) (rest := []) (ls2 := [some (.ref w1), some (.int (iI u0))]) (pc' := 78) dX0_value_75 (fun _ _ => ex_calV rfl (by decide)) rfl (Nat.le_of_ble_eq_true rfl) (Nat.le_of_ble_eq_true rfl) (Nat.le_of_ble_eq_true rfl) (cr_rcv rfl rfl (by decide) hK1) rfl rfl rfl (fun q => nomatch q) h
theorem c3_78N {c : CS} {Q : Rs → CS → Prop} {l0 : Option Value} {x1 : Int} {l2 : Option Value} {x4 : Int} {l5 : Option Value} {w0 : Nat}
    (h : False) (hx1 : (-2147483648 : Int) ≤ x1 ∧ x1 ≤ 2147483647 := by omega) (hx4 : (-2147483648 : Int) ≤ x4 ∧ x4 ≤ 2147483647 := by omega) :
    CW g B O 3 78 [l0, some (.int (iI x1)), l2, some .null, some (.int (iI x4)), l5] [.ref w0] c Q := by
  refine cq_R (fun hRc => ?_)
  refine cq_g (pc' := 79) (ls' := [l0, some (.int (iI x1)), some (.ref w0), some .null, some (.int (iI x4)), l5]) (st' := []) dX0_value_78 (fun _ _ => rfl) ?_
  refine cq_g (pc' := 80) (ls' := [l0, some (.int (iI x1)), some (.ref w0), some .null, some (.int (iI x4)), l5]) (st' := [.null]) dX0_value_79 (fun _ _ => rfl) ?_
  exact absurd h id
theorem c3_78R {c : CS} {Q : Rs → CS → Prop} {l0 : Option Value} {x1 : Int} {l2 : Option Value} {r3 : Nat} {x4 : Int} {l5 : Option Value} {w0 : Nat}
    (h : yK c r3 = 2 ∧ (yP c r3 4 = none → ((-2147483648 : Int) ≤ x4 + 1 ∧ x4 + 1 ≤ 2147483647) ∧ CW g B O 3 14 [l0, some (.int (iI x1)), some (.ref w0), some .null, some (.int (iI (x4 + 1))), l5] [] c Q) ∧ (∀ b2, yP c r3 4 = some b2 → ((-2147483648 : Int) ≤ x4 + 1 ∧ x4 + 1 ≤ 2147483647) ∧ CW g B O 3 14 [l0, some (.int (iI x1)), some (.ref w0), some (.ref b2), some (.int (iI (x4 + 1))), l5] [] c Q)) (hx1 : (-2147483648 : Int) ≤ x1 ∧ x1 ≤ 2147483647 := by omega) (hx4 : (-2147483648 : Int) ≤ x4 ∧ x4 ≤ 2147483647 := by omega) :
    CW g B O 3 78 [l0, some (.int (iI x1)), l2, some (.ref r3), some (.int (iI x4)), l5] [.ref w0] c Q := by
  refine cq_R (fun hRc => ?_)
  refine cq_g (pc' := 79) (ls' := [l0, some (.int (iI x1)), some (.ref w0), some (.ref r3), some (.int (iI x4)), l5]) (st' := []) dX0_value_78 (fun _ _ => rfl) ?_
  refine cq_g (pc' := 80) (ls' := [l0, some (.int (iI x1)), some (.ref w0), some (.ref r3), some (.int (iI x4)), l5]) (st' := [.ref r3]) dX0_value_79 (fun _ _ => rfl) ?_
  obtain ⟨hK1, h1, h2⟩ := h
  cases hP : yP c r3 4 with
  | none =>
    have h := h1 hP
    refine cq_getN dX0_value_80 rfl (by decide) rfl (by unfold plK; decide) hK1 hP ?_
    refine cq_g (pc' := 84) (ls' := [l0, some (.int (iI x1)), some (.ref w0), some .null, some (.int (iI x4)), l5]) (st' := []) dX0_value_83 (fun _ _ => rfl) ?_
    obtain ⟨hr3, h⟩ := h
    refine cq_inc (ls' := [l0, some (.int (iI x1)), some (.ref w0), some .null, some (.int (iI (x4 + 1))), l5]) dX0_value_84 rfl (Nat.le_of_ble_eq_true rfl) rfl ?_
    refine cq_goto (t := 14) dX0_value_87 (by decide) ?_
    exact h
  | some b2 =>
    have h := h2 b2 hP
    refine cq_getP dX0_value_80 rfl (by decide) rfl (by unfold plK; decide) hK1 hP ?_
    refine cq_g (pc' := 84) (ls' := [l0, some (.int (iI x1)), some (.ref w0), some (.ref b2), some (.int (iI x4)), l5]) (st' := []) dX0_value_83 (fun _ _ => rfl) ?_
    obtain ⟨hr4, h⟩ := h
    refine cq_inc (ls' := [l0, some (.int (iI x1)), some (.ref w0), some (.ref b2), some (.int (iI (x4 + 1))), l5]) dX0_value_84 rfl (Nat.le_of_ble_eq_true rfl) rfl ?_
    refine cq_goto (t := 14) dX0_value_87 (by decide) ?_
    exact h
theorem c3_90 {c : CS} {Q : Rs → CS → Prop} {l0 : Option Value} {l1 : Option Value} {r2 : Nat} {l3 : Option Value} {l4 : Option Value} {l5 : Option Value}
    (h : Q (Sum.inl (some (.ref r2))) c)  :
    CW g B O 3 90 [l0, l1, some (.ref r2), l3, l4, l5] [] c Q := by
  refine cq_R (fun hRc => ?_)
  refine cq_g (pc' := 91) (ls' := [l0, l1, some (.ref r2), l3, l4, l5]) (st' := [.ref r2]) dX0_value_90 (fun _ _ => rfl) ?_
  exact cq_aret dX0_value_91 rfl h
theorem c4_0 {c : CS} {Q : Rs → CS → Prop} {r0 : Nat} {r1 : Nat} {l2 : Option Value} {l3 : Option Value}
    (h : CW g B O 4 4 [some (.ref r0), some (.ref r1), some (.ref r0), some (.int (iI 0))] [] c Q)  :
    CW g B O 4 0 [some (.ref r0), some (.ref r1), l2, l3] [] c Q := by
  refine cq_R (fun hRc => ?_)
  refine cq_g (pc' := 1) (ls' := [some (.ref r0), some (.ref r1), l2, l3]) (st' := [.ref r0]) dX0_leadsTo_0 (fun _ _ => rfl) ?_
  refine cq_g (pc' := 2) (ls' := [some (.ref r0), some (.ref r1), some (.ref r0), l3]) (st' := []) dX0_leadsTo_1 (fun _ _ => rfl) ?_
  refine cq_ic dX0_leadsTo_2 ?_
  refine cq_g (pc' := 4) (ls' := [some (.ref r0), some (.ref r1), some (.ref r0), some (.int (iI 0))]) (st' := []) dX0_leadsTo_3 (fun _ _ => rfl) ?_
  exact h
theorem c4_4N {c : CS} {Q : Rs → CS → Prop} {l0 : Option Value} {r1 : Nat} {x3 : Int}
    (h : (24 ≤ x3 → CW g B O 4 32 [l0, some (.ref r1), some .null, some (.int (iI x3))] [] c Q) ∧ (x3 < 24 → CW g B O 4 32 [l0, some (.ref r1), some .null, some (.int (iI x3))] [] c Q)) (hx3 : (-2147483648 : Int) ≤ x3 ∧ x3 ≤ 2147483647 := by omega) :
    CW g B O 4 4 [l0, some (.ref r1), some .null, some (.int (iI x3))] [] c Q := by
  refine cq_R (fun hRc => ?_)
  refine cq_g (pc' := 5) (ls' := [l0, some (.ref r1), some .null, some (.int (iI x3))]) (st' := [.int (iI x3)]) dX0_leadsTo_4 (fun _ _ => rfl) ?_
  refine cq_bi dX0_leadsTo_5 (by decide) ?_
  obtain ⟨h1, h2⟩ := h
  refine cq_icmp (t := 32) dX0_leadsTo_7 (by decide) (d_ge hx3 (by decide)) (fun q => ?_) (fun q => ?_)
  · have h := h1 q
    exact h
  · have h := h2 (Int.not_le.mp q)
    refine cq_g (pc' := 11) (ls' := [l0, some (.ref r1), some .null, some (.int (iI x3))]) (st' := [.null]) dX0_leadsTo_10 (fun _ _ => rfl) ?_
    refine cq_nullN (t := 32) dX0_leadsTo_11 (by decide) ?_
    exact h
theorem c4_4R {c : CS} {Q : Rs → CS → Prop} {l0 : Option Value} {r1 : Nat} {r2 : Nat} {x3 : Int}
    (h : (24 ≤ x3 → CW g B O 4 32 [l0, some (.ref r1), some (.ref r2), some (.int (iI x3))] [] c Q) ∧ (x3 < 24 → (¬ r2 = r1 → yK c r2 = 2 ∧ (yP c r2 4 = none → ((-2147483648 : Int) ≤ x3 + 1 ∧ x3 + 1 ≤ 2147483647) ∧ CW g B O 4 4 [l0, some (.ref r1), some .null, some (.int (iI (x3 + 1)))] [] c Q) ∧ (∀ b2, yP c r2 4 = some b2 → ((-2147483648 : Int) ≤ x3 + 1 ∧ x3 + 1 ≤ 2147483647) ∧ CW g B O 4 4 [l0, some (.ref r1), some (.ref b2), some (.int (iI (x3 + 1)))] [] c Q)) ∧ (r2 = r1 → Q (Sum.inl (some (.int (iI 1)))) c))) (hx3 : (-2147483648 : Int) ≤ x3 ∧ x3 ≤ 2147483647 := by omega) :
    CW g B O 4 4 [l0, some (.ref r1), some (.ref r2), some (.int (iI x3))] [] c Q := by
  refine cq_R (fun hRc => ?_)
  refine cq_g (pc' := 5) (ls' := [l0, some (.ref r1), some (.ref r2), some (.int (iI x3))]) (st' := [.int (iI x3)]) dX0_leadsTo_4 (fun _ _ => rfl) ?_
  refine cq_bi dX0_leadsTo_5 (by decide) ?_
  obtain ⟨h1, h2⟩ := h
  refine cq_icmp (t := 32) dX0_leadsTo_7 (by decide) (d_ge hx3 (by decide)) (fun q => ?_) (fun q => ?_)
  · have h := h1 q
    exact h
  · have h := h2 (Int.not_le.mp q)
    refine cq_g (pc' := 11) (ls' := [l0, some (.ref r1), some (.ref r2), some (.int (iI x3))]) (st' := [.ref r2]) dX0_leadsTo_10 (fun _ _ => rfl) ?_
    refine cq_nullR dX0_leadsTo_11 ?_
    refine cq_g (pc' := 15) (ls' := [l0, some (.ref r1), some (.ref r2), some (.int (iI x3))]) (st' := [.ref r2]) dX0_leadsTo_14 (fun _ _ => rfl) ?_
    refine cq_g (pc' := 16) (ls' := [l0, some (.ref r1), some (.ref r2), some (.int (iI x3))]) (st' := [.ref r1, .ref r2]) dX0_leadsTo_15 (fun _ _ => rfl) ?_
    obtain ⟨h1, h2⟩ := h
    refine cq_ane (t := 21) dX0_leadsTo_16 (by decide) (fun q => ?_) (fun q => ?_)
    · have h := h1 q
      refine cq_g (pc' := 22) (ls' := [l0, some (.ref r1), some (.ref r2), some (.int (iI x3))]) (st' := [.ref r2]) dX0_leadsTo_21 (fun _ _ => rfl) ?_
      obtain ⟨hK1, h1, h2⟩ := h
      cases hP : yP c r2 4 with
      | none =>
        have h := h1 hP
        refine cq_getN dX0_leadsTo_22 rfl (by decide) rfl (by unfold plK; decide) hK1 hP ?_
        refine cq_g (pc' := 26) (ls' := [l0, some (.ref r1), some .null, some (.int (iI x3))]) (st' := []) dX0_leadsTo_25 (fun _ _ => rfl) ?_
        obtain ⟨hr3, h⟩ := h
        refine cq_inc (ls' := [l0, some (.ref r1), some .null, some (.int (iI (x3 + 1)))]) dX0_leadsTo_26 rfl (Nat.le_of_ble_eq_true rfl) rfl ?_
        refine cq_goto (t := 4) dX0_leadsTo_29 (by decide) ?_
        exact h
      | some b2 =>
        have h := h2 b2 hP
        refine cq_getP dX0_leadsTo_22 rfl (by decide) rfl (by unfold plK; decide) hK1 hP ?_
        refine cq_g (pc' := 26) (ls' := [l0, some (.ref r1), some (.ref b2), some (.int (iI x3))]) (st' := []) dX0_leadsTo_25 (fun _ _ => rfl) ?_
        obtain ⟨hr4, h⟩ := h
        refine cq_inc (ls' := [l0, some (.ref r1), some (.ref b2), some (.int (iI (x3 + 1)))]) dX0_leadsTo_26 rfl (Nat.le_of_ble_eq_true rfl) rfl ?_
        refine cq_goto (t := 4) dX0_leadsTo_29 (by decide) ?_
        exact h
    · have h := h2 q
      refine cq_ic dX0_leadsTo_19 ?_
      exact cq_ret dX0_leadsTo_20 rfl h
theorem c4_32 {c : CS} {Q : Rs → CS → Prop} {l0 : Option Value} {l1 : Option Value} {l2 : Option Value} {l3 : Option Value}
    (h : Q (Sum.inl (some (.int (iI 0)))) c)  :
    CW g B O 4 32 [l0, l1, l2, l3] [] c Q := by
  refine cq_R (fun hRc => ?_)
  refine cq_ic dX0_leadsTo_32 ?_
  exact cq_ret dX0_leadsTo_33 rfl h
theorem c16_0 {c : CS} {Q : Rs → CS → Prop} {r0 : Nat}
    (h : yK c r0 = 4 ∧ (∀ d1, d1 = wI c r0 0 0 → yK d1 r0 = 4 ∧ (∀ d3, d3 = wI d1 r0 1 0 → yK d3 r0 = 4 ∧ (∀ d5, d5 = wI d3 r0 2 0 → yK d5 r0 = 4 ∧ (∀ d7, d7 = wI d5 r0 3 0 → yK d7 r0 = 4 ∧ (∀ d9, d9 = wI d7 r0 4 0 → Q (Sum.inl none) d9))))))  :
    CW g B O 16 0 [some (.ref r0)] [] c Q := by
  refine cq_R (fun hRc => ?_)
  refine cq_g (pc' := 1) (ls' := [some (.ref r0)]) (st' := [.ref r0]) dX2_init_0 (fun _ _ => rfl) ?_
  refine cq_oi dX2_init_1 rfl ⟨Nat.le_of_ble_eq_true rfl, Nat.le_of_ble_eq_true rfl, Nat.le_of_ble_eq_true rfl⟩ ?_
  refine cq_g (pc' := 5) (ls' := [some (.ref r0)]) (st' := [.ref r0]) dX2_init_4 (fun _ _ => rfl) ?_
  refine cq_ic dX2_init_5 ?_
  obtain ⟨hK2, h⟩ := h
  refine cq_putI dX2_init_6 rfl (by decide) (Or.inl rfl) rfl (by unfold plK; decide) (Or.inl rfl) (by decide) hK2 ?_
  generalize ed1 : wI c r0 0 0 = d1
  replace h := h _ ed1.symm
  refine cq_R (fun hRd1 => ?_)
  refine cq_g (pc' := 10) (ls' := [some (.ref r0)]) (st' := [.ref r0]) dX2_init_9 (fun _ _ => rfl) ?_
  refine cq_ic dX2_init_10 ?_
  obtain ⟨hK4, h⟩ := h
  refine cq_putI dX2_init_11 rfl (by decide) (Or.inl rfl) rfl (by unfold plK; decide) (Or.inl rfl) (by decide) hK4 ?_
  generalize ed3 : wI d1 r0 1 0 = d3
  replace h := h _ ed3.symm
  refine cq_R (fun hRd3 => ?_)
  refine cq_g (pc' := 15) (ls' := [some (.ref r0)]) (st' := [.ref r0]) dX2_init_14 (fun _ _ => rfl) ?_
  refine cq_ic dX2_init_15 ?_
  obtain ⟨hK6, h⟩ := h
  refine cq_putI dX2_init_16 rfl (by decide) (Or.inl rfl) rfl (by unfold plK; decide) (Or.inl rfl) (by decide) hK6 ?_
  generalize ed5 : wI d3 r0 2 0 = d5
  replace h := h _ ed5.symm
  refine cq_R (fun hRd5 => ?_)
  refine cq_g (pc' := 20) (ls' := [some (.ref r0)]) (st' := [.ref r0]) dX2_init_19 (fun _ _ => rfl) ?_
  refine cq_ic dX2_init_20 ?_
  obtain ⟨hK8, h⟩ := h
  refine cq_putI dX2_init_21 rfl (by decide) (Or.inl rfl) rfl (by unfold plK; decide) (Or.inl rfl) (by decide) hK8 ?_
  generalize ed7 : wI d5 r0 3 0 = d7
  replace h := h _ ed7.symm
  refine cq_R (fun hRd7 => ?_)
  refine cq_g (pc' := 25) (ls' := [some (.ref r0)]) (st' := [.ref r0]) dX2_init_24 (fun _ _ => rfl) ?_
  refine cq_ic dX2_init_25 ?_
  obtain ⟨hK10, h⟩ := h
  refine cq_putI dX2_init_26 rfl (by decide) (Or.inl rfl) rfl (by unfold plK; decide) (Or.inl rfl) (by decide) hK10 ?_
  generalize ed9 : wI d7 r0 4 0 = d9
  replace h := h _ ed9.symm
  refine cq_R (fun hRd9 => ?_)
  exact cq_vret dX2_init_29 rfl h
theorem c17_0 {c : CS} {Q : Rs → CS → Prop} {r0 : Nat}
    (h : yK c r0 = 4 ∧ yK c r0 = 4 ∧ (yI c r0 1 ≤ yI c r0 0 → CW g B O 17 16 [some (.ref r0)] [.int (iI 0)] c Q) ∧ (yI c r0 0 < yI c r0 1 → CW g B O 17 16 [some (.ref r0)] [.int (iI 1)] c Q))  :
    CW g B O 17 0 [some (.ref r0)] [] c Q := by
  refine cq_R (fun hRc => ?_)
  refine cq_g (pc' := 1) (ls' := [some (.ref r0)]) (st' := [.ref r0]) dX2_hasGiven_0 (fun _ _ => rfl) ?_
  obtain ⟨hK1, h⟩ := h
  refine cq_getI dX2_hasGiven_1 rfl (by decide) rfl (by unfold plK; decide) hK1 ?_
  refine cq_g (pc' := 5) (ls' := [some (.ref r0)]) (st' := [.ref r0, .int (iI (yI c r0 0))]) dX2_hasGiven_4 (fun _ _ => rfl) ?_
  obtain ⟨hK2, h⟩ := h
  refine cq_getI dX2_hasGiven_5 rfl (by decide) rfl (by unfold plK; decide) hK2 ?_
  obtain ⟨h1, h2⟩ := h
  refine cq_icmp (t := 15) dX2_hasGiven_8 (by decide) (d_ge (hRc.1 _ _) (hRc.1 _ _)) (fun q => ?_) (fun q => ?_)
  · have h := h1 q
    refine cq_ic dX2_hasGiven_15 ?_
    exact h
  · have h := h2 (Int.not_le.mp q)
    refine cq_ic dX2_hasGiven_11 ?_
    refine cq_goto (t := 16) dX2_hasGiven_12 (by decide) ?_
    exact h
theorem c17_16 {c : CS} {Q : Rs → CS → Prop} {l0 : Option Value} {u0 : Int}
    (h : (u0 = 0 ∨ u0 = 1) ∧ Q (Sum.inl (some (.int (iI u0)))) c) (hu0 : (-2147483648 : Int) ≤ u0 ∧ u0 ≤ 2147483647 := by omega) :
    CW g B O 17 16 [l0] [.int (iI u0)] c Q := by
  refine cq_R (fun hRc => ?_)
  obtain ⟨hn, h⟩ := h
  exact cq_ret dX2_hasGiven_16 (by rcases hn with q | q <;> rw [q] <;> rfl) h
theorem c18_0 {c : CS} {Q : Rs → CS → Prop} {r0 : Nat}
    (h : yU c + 4100 ≤ B ∧ (∀ b1, yK c b1 = 0 → ∀ d2, d2 = wN c b1 7 0 4100 → yK d2 r0 = 5 ∧ (∀ d4, d4 = wP d2 r0 0 (some b1) → yU d4 + 48 ≤ B ∧ (∀ b6, yK d4 b6 = 0 → ∀ d7, d7 = wN d4 b6 101 40 48 → yK d7 r0 = 5 ∧ (∀ d9, d9 = wP d7 r0 1 (some b6) → yU d9 + 48 ≤ B ∧ (∀ b11, yK d9 b11 = 0 → ∀ d12, d12 = wN d9 b11 101 40 48 → yK d12 r0 = 5 ∧ (∀ d14, d14 = wP d12 r0 2 (some b11) → yK d14 r0 = 5 ∧ (∀ d16, d16 = wI d14 r0 3 0 → yU d16 + 15400 ≤ B ∧ (∀ b18, yK d16 b18 = 0 → ∀ d19, d19 = wN d16 b18 1 0 15400 → yK d19 r0 = 5 ∧ (∀ d21, d21 = wP d19 r0 4 (some b18) → yU d21 + 13 ≤ B ∧ (∀ b23, yK d21 b23 = 0 → ∀ d24, d24 = wN d21 b23 4 0 13 → CW g B O 16 0 [some (.ref b23)] [] d24 (CK g B O 18 55 [some (.ref r0)] [.ref b23, .ref r0] Q false))))))))))))  :
    CW g B O 18 0 [some (.ref r0)] [] c Q := by
  refine cq_R (fun hRc => ?_)
  refine cq_g (pc' := 1) (ls' := [some (.ref r0)]) (st' := [.ref r0]) dX3_init_0 (fun _ _ => rfl) ?_
  refine cq_oi dX3_init_1 rfl ⟨Nat.le_of_ble_eq_true rfl, Nat.le_of_ble_eq_true rfl, Nat.le_of_ble_eq_true rfl⟩ ?_
  refine cq_g (pc' := 5) (ls' := [some (.ref r0)]) (st' := [.ref r0]) dX3_init_4 (fun _ _ => rfl) ?_
  obtain ⟨hU3, h⟩ := h
  refine cq_newT dX3_init_5 rfl dX3_init_8 dX3_init_9 rfl rfl (Nat.le_of_ble_eq_true rfl) hU3 (fun b1 hbb1 => ?_)
  replace h := h b1 hbb1
  generalize ed2 : wN c b1 7 0 4100 = d2
  replace h := h _ ed2.symm
  refine cq_R (fun hRd2 => ?_)
  obtain ⟨hK5, h⟩ := h
  refine cq_putP dX3_init_12 rfl (by decide) (Or.inl rfl) rfl (by unfold plK; decide) hK5 ?_
  generalize ed4 : wP d2 r0 0 (some b1) = d4
  replace h := h _ ed4.symm
  refine cq_R (fun hRd4 => ?_)
  refine cq_g (pc' := 16) (ls' := [some (.ref r0)]) (st' := [.ref r0]) dX3_init_15 (fun _ _ => rfl) ?_
  refine cq_bi dX3_init_16 (by decide) ?_
  obtain ⟨hU8, h⟩ := h
  refine cq_newI dX3_init_18 (by decide) hU8 (fun b6 hbb6 => ?_)
  replace h := h b6 hbb6
  show CW g B O 18 20 [some (.ref r0)] [.ref b6, .ref r0] (wN d4 b6 101 40 48) Q
  generalize ed7 : wN d4 b6 101 40 48 = d7
  replace h := h _ ed7.symm
  refine cq_R (fun hRd7 => ?_)
  obtain ⟨hK10, h⟩ := h
  refine cq_putP dX3_init_20 rfl (by decide) (Or.inr ⟨rfl, rfl⟩) rfl (by unfold plK; decide) hK10 ?_
  generalize ed9 : wP d7 r0 1 (some b6) = d9
  replace h := h _ ed9.symm
  refine cq_R (fun hRd9 => ?_)
  refine cq_g (pc' := 24) (ls' := [some (.ref r0)]) (st' := [.ref r0]) dX3_init_23 (fun _ _ => rfl) ?_
  refine cq_bi dX3_init_24 (by decide) ?_
  obtain ⟨hU13, h⟩ := h
  refine cq_newI dX3_init_26 (by decide) hU13 (fun b11 hbb11 => ?_)
  replace h := h b11 hbb11
  show CW g B O 18 28 [some (.ref r0)] [.ref b11, .ref r0] (wN d9 b11 101 40 48) Q
  generalize ed12 : wN d9 b11 101 40 48 = d12
  replace h := h _ ed12.symm
  refine cq_R (fun hRd12 => ?_)
  obtain ⟨hK15, h⟩ := h
  refine cq_putP dX3_init_28 rfl (by decide) (Or.inr ⟨rfl, rfl⟩) rfl (by unfold plK; decide) hK15 ?_
  generalize ed14 : wP d12 r0 2 (some b11) = d14
  replace h := h _ ed14.symm
  refine cq_R (fun hRd14 => ?_)
  refine cq_g (pc' := 32) (ls' := [some (.ref r0)]) (st' := [.ref r0]) dX3_init_31 (fun _ _ => rfl) ?_
  refine cq_ic dX3_init_32 ?_
  obtain ⟨hK17, h⟩ := h
  refine cq_putI dX3_init_33 rfl (by decide) (Or.inl rfl) rfl (by unfold plK; decide) (Or.inl rfl) (by decide) hK17 ?_
  generalize ed16 : wI d14 r0 3 0 = d16
  replace h := h _ ed16.symm
  refine cq_R (fun hRd16 => ?_)
  refine cq_g (pc' := 37) (ls' := [some (.ref r0)]) (st' := [.ref r0]) dX3_init_36 (fun _ _ => rfl) ?_
  obtain ⟨hU20, h⟩ := h
  refine cq_newL dX3_init_37 rfl dX3_init_40 dX3_init_41 rfl rfl (Nat.le_of_ble_eq_true rfl) hU20 (fun b18 hbb18 => ?_)
  replace h := h b18 hbb18
  generalize ed19 : wN d16 b18 1 0 15400 = d19
  replace h := h _ ed19.symm
  refine cq_R (fun hRd19 => ?_)
  obtain ⟨hK22, h⟩ := h
  refine cq_putP dX3_init_44 rfl (by decide) (Or.inr ⟨rfl, rfl⟩) rfl (by unfold plK; decide) hK22 ?_
  generalize ed21 : wP d19 r0 4 (some b18) = d21
  replace h := h _ ed21.symm
  refine cq_R (fun hRd21 => ?_)
  refine cq_g (pc' := 48) (ls' := [some (.ref r0)]) (st' := [.ref r0]) dX3_init_47 (fun _ _ => rfl) ?_
  obtain ⟨hU25, h⟩ := h
  refine cq_new (N := 5) dX3_init_48 rfl (by decide) rfl (by unfold plK; decide) hU25 (fun b23 hbb23 => ?_)
  replace h := h b23 hbb23
  show CW g B O 18 51 [some (.ref r0)] [.ref b23, .ref r0] (wN d21 b23 4 0 13) Q
  generalize ed24 : wN d21 b23 4 0 13 = d24
  replace h := h _ ed24.symm
  refine cq_R (fun hRd24 => ?_)
  refine cq_g (pc' := 52) (ls' := [some (.ref r0)]) (st' := [.ref b23, .ref b23, .ref r0]) dX3_init_51 (fun _ _ => rfl) ?_
  exact cq_call (th := false) (rest := [.ref b23, .ref r0]) (ls2 := [some (.ref b23)]) (pc' := 55) dX3_init_52 (fun _ _ => ex_calI rfl (by decide)) rfl (Nat.le_of_ble_eq_true rfl) (Nat.le_of_ble_eq_true rfl) (Nat.le_of_ble_eq_true rfl) (fun _ _ => rfl) rfl rfl rfl (fun q => nomatch q) h
theorem c18_55 {c : CS} {Q : Rs → CS → Prop} {r0 : Nat} {w0 : Nat} {w1 : Nat}
    (h : yK c w1 = 5 ∧ (∀ d1, d1 = wP c w1 5 (some w0) → yK d1 r0 = 5 ∧ (∀ d3, d3 = wI d1 r0 6 0 → Q (Sum.inl none) d3)))  :
    CW g B O 18 55 [some (.ref r0)] [.ref w0, .ref w1] c Q := by
  refine cq_R (fun hRc => ?_)
  obtain ⟨hK2, h⟩ := h
  refine cq_putP dX3_init_55 rfl (by decide) (Or.inr ⟨rfl, rfl⟩) rfl (by unfold plK; decide) hK2 ?_
  generalize ed1 : wP c w1 5 (some w0) = d1
  replace h := h _ ed1.symm
  refine cq_R (fun hRd1 => ?_)
  refine cq_g (pc' := 59) (ls' := [some (.ref r0)]) (st' := [.ref r0]) dX3_init_58 (fun _ _ => rfl) ?_
  refine cq_ic dX3_init_59 ?_
  obtain ⟨hK4, h⟩ := h
  refine cq_putI dX3_init_60 rfl (by decide) (Or.inl rfl) rfl (by unfold plK; decide) (Or.inl rfl) (by decide) hK4 ?_
  generalize ed3 : wI d1 r0 6 0 = d3
  replace h := h _ ed3.symm
  refine cq_R (fun hRd3 => ?_)
  exact cq_vret dX3_init_63 rfl h
theorem c19_0 {c : CS} {Q : Rs → CS → Prop} {r0 : Nat}
    (h : yK c r0 = 5 ∧ Q (Sum.inl (some (.int (iI (yI c r0 6))))) c)  :
    CW g B O 19 0 [some (.ref r0)] [] c Q := by
  refine cq_R (fun hRc => ?_)
  refine cq_g (pc' := 1) (ls' := [some (.ref r0)]) (st' := [.ref r0]) dX3_size_0 (fun _ _ => rfl) ?_
  obtain ⟨hK1, h⟩ := h
  refine cq_getI dX3_size_1 rfl (by decide) rfl (by unfold plK; decide) hK1 ?_
  exact cq_ret dX3_size_4 rfl h
theorem c20_0 {c : CS} {Q : Rs → CS → Prop} {r0 : Nat} {r1 : Nat} {l2 : Option Value} {l3 : Option Value} {l4 : Option Value}
    (h : yK c r0 = 5 ∧ (∀ d1, d1 = wP c r0 0 (some r1) → yK d1 r0 = 5 ∧ (∀ d3, d3 = wI d1 r0 3 0 → yK d3 r0 = 5 ∧ (∀ d5, d5 = wI d3 r0 6 0 → CW g B O 20 22 [some (.ref r0), some (.ref r1), some (.int (iI 0)), some (.int (iI 0)), some (.int (iI 0))] [] d5 Q))))  :
    CW g B O 20 0 [some (.ref r0), some (.ref r1), l2, l3, l4] [] c Q := by
  refine cq_R (fun hRc => ?_)
  refine cq_g (pc' := 1) (ls' := [some (.ref r0), some (.ref r1), l2, l3, l4]) (st' := [.ref r0]) dX3_read_0 (fun _ _ => rfl) ?_
  refine cq_g (pc' := 2) (ls' := [some (.ref r0), some (.ref r1), l2, l3, l4]) (st' := [.ref r1, .ref r0]) dX3_read_1 (fun _ _ => rfl) ?_
  obtain ⟨hK2, h⟩ := h
  refine cq_putP dX3_read_2 rfl (by decide) (Or.inl rfl) rfl (by unfold plK; decide) hK2 ?_
  generalize ed1 : wP c r0 0 (some r1) = d1
  replace h := h _ ed1.symm
  refine cq_R (fun hRd1 => ?_)
  refine cq_g (pc' := 6) (ls' := [some (.ref r0), some (.ref r1), l2, l3, l4]) (st' := [.ref r0]) dX3_read_5 (fun _ _ => rfl) ?_
  refine cq_ic dX3_read_6 ?_
  obtain ⟨hK4, h⟩ := h
  refine cq_putI dX3_read_7 rfl (by decide) (Or.inl rfl) rfl (by unfold plK; decide) (Or.inl rfl) (by decide) hK4 ?_
  generalize ed3 : wI d1 r0 3 0 = d3
  replace h := h _ ed3.symm
  refine cq_R (fun hRd3 => ?_)
  refine cq_g (pc' := 11) (ls' := [some (.ref r0), some (.ref r1), l2, l3, l4]) (st' := [.ref r0]) dX3_read_10 (fun _ _ => rfl) ?_
  refine cq_ic dX3_read_11 ?_
  obtain ⟨hK6, h⟩ := h
  refine cq_putI dX3_read_12 rfl (by decide) (Or.inl rfl) rfl (by unfold plK; decide) (Or.inl rfl) (by decide) hK6 ?_
  generalize ed5 : wI d3 r0 6 0 = d5
  replace h := h _ ed5.symm
  refine cq_R (fun hRd5 => ?_)
  refine cq_ic dX3_read_15 ?_
  refine cq_g (pc' := 17) (ls' := [some (.ref r0), some (.ref r1), some (.int (iI 0)), l3, l4]) (st' := []) dX3_read_16 (fun _ _ => rfl) ?_
  refine cq_ic dX3_read_17 ?_
  refine cq_g (pc' := 19) (ls' := [some (.ref r0), some (.ref r1), some (.int (iI 0)), some (.int (iI 0)), l4]) (st' := []) dX3_read_18 (fun _ _ => rfl) ?_
  refine cq_ic dX3_read_19 ?_
  refine cq_g (pc' := 22) (ls' := [some (.ref r0), some (.ref r1), some (.int (iI 0)), some (.int (iI 0)), some (.int (iI 0))]) (st' := []) dX3_read_20 (fun _ _ => rfl) ?_
  exact h
theorem c20_22 {c : CS} {Q : Rs → CS → Prop} {r0 : Nat} {r1 : Nat} {x2 : Int} {x3 : Int} {x4 : Int}
    (h : yK c r1 = 7 ∧ (((yT c r1).length : Int) < x4 → yK c r1 = 7 ∧ yK c r0 = 5 ∧ CW g B O 22 0 [some (.ref r0), some (.int (iI x2)), some (.int (iI ((yT c r1).length : Int))), none, none, none, none] [] c (CK g B O 20 90 [some (.ref r0), some (.ref r1), some (.int (iI x2)), some (.int (iI x3)), some (.int (iI x4))] [] Q false)) ∧ (x4 ≤ ((yT c r1).length : Int) → yK c r1 = 7 ∧ (x4 = ((yT c r1).length : Int) → CW g B O 20 51 [some (.ref r0), some (.ref r1), some (.int (iI x2)), some (.int (iI x3)), some (.int (iI x4))] [] c Q) ∧ (¬ x4 = ((yT c r1).length : Int) → yK c r1 = 7 ∧ (¬ sg (yT c r1) x4 = 32 → CW g B O 20 75 [some (.ref r0), some (.ref r1), some (.int (iI x2)), some (.int (iI x3)), some (.int (iI x4))] [] c Q) ∧ (sg (yT c r1) x4 = 32 → CW g B O 20 51 [some (.ref r0), some (.ref r1), some (.int (iI x2)), some (.int (iI x3)), some (.int (iI x4))] [] c Q)))) (hx2 : (-2147483648 : Int) ≤ x2 ∧ x2 ≤ 2147483647 := by omega) (hx3 : (-2147483648 : Int) ≤ x3 ∧ x3 ≤ 2147483647 := by omega) (hx4 : (-2147483648 : Int) ≤ x4 ∧ x4 ≤ 2147483647 := by omega) :
    CW g B O 20 22 [some (.ref r0), some (.ref r1), some (.int (iI x2)), some (.int (iI x3)), some (.int (iI x4))] [] c Q := by
  refine cq_R (fun hRc => ?_)
  refine cq_g (pc' := 24) (ls' := [some (.ref r0), some (.ref r1), some (.int (iI x2)), some (.int (iI x3)), some (.int (iI x4))]) (st' := [.int (iI x4)]) dX3_read_22 (fun _ _ => rfl) ?_
  refine cq_g (pc' := 25) (ls' := [some (.ref r0), some (.ref r1), some (.int (iI x2)), some (.int (iI x3)), some (.int (iI x4))]) (st' := [.ref r1, .int (iI x4)]) dX3_read_24 (fun _ _ => rfl) ?_
  obtain ⟨hK1, h⟩ := h
  refine cq_call (th := false) (rest := [.int (iI x4)]) (ls2 := [some (.ref r1)]) (pc' := 28) dX3_read_25 (fun _ _ => ex_calV rfl (by decide)) rfl (Nat.le_of_ble_eq_true rfl) (Nat.le_of_ble_eq_true rfl) (Nat.le_of_ble_eq_true rfl) (cr_rcv rfl rfl (by decide) hK1) rfl rfl rfl (fun q => nomatch q) (t54 hK1 ?_)
  show CW g B O 20 28 [some (.ref r0), some (.ref r1), some (.int (iI x2)), some (.int (iI x3)), some (.int (iI x4))] [.int (iI ((yT c r1).length : Int)), .int (iI x4)] c Q
  obtain ⟨h1, h2⟩ := h
  refine cq_icmp (t := 81) dX3_read_28 (by decide) (d_gt hx4 (crT hRc hK1)) (fun q => ?_) (fun q => ?_)
  · have h := h1 q
    refine cq_g (pc' := 82) (ls' := [some (.ref r0), some (.ref r1), some (.int (iI x2)), some (.int (iI x3)), some (.int (iI x4))]) (st' := [.ref r0]) dX3_read_81 (fun _ _ => rfl) ?_
    refine cq_g (pc' := 83) (ls' := [some (.ref r0), some (.ref r1), some (.int (iI x2)), some (.int (iI x3)), some (.int (iI x4))]) (st' := [.int (iI x2), .ref r0]) dX3_read_82 (fun _ _ => rfl) ?_
    refine cq_g (pc' := 84) (ls' := [some (.ref r0), some (.ref r1), some (.int (iI x2)), some (.int (iI x3)), some (.int (iI x4))]) (st' := [.ref r1, .int (iI x2), .ref r0]) dX3_read_83 (fun _ _ => rfl) ?_
    obtain ⟨hK2, h⟩ := h
    refine cq_call (th := false) (rest := [.int (iI x2), .ref r0]) (ls2 := [some (.ref r1)]) (pc' := 87) dX3_read_84 (fun _ _ => ex_calV rfl (by decide)) rfl (Nat.le_of_ble_eq_true rfl) (Nat.le_of_ble_eq_true rfl) (Nat.le_of_ble_eq_true rfl) (cr_rcv rfl rfl (by decide) hK2) rfl rfl rfl (fun q => nomatch q) (t54 hK2 ?_)
    show CW g B O 20 87 [some (.ref r0), some (.ref r1), some (.int (iI x2)), some (.int (iI x3)), some (.int (iI x4))] [.int (iI ((yT c r1).length : Int)), .int (iI x2), .ref r0] c Q
    obtain ⟨hK3, h⟩ := h
    exact cq_call (th := false) (rest := []) (ls2 := [some (.ref r0), some (.int (iI x2)), some (.int (iI ((yT c r1).length : Int))), none, none, none, none]) (pc' := 90) dX3_read_87 (fun _ _ => ex_calV rfl (by decide)) rfl (Nat.le_of_ble_eq_true rfl) (Nat.le_of_ble_eq_true rfl) (Nat.le_of_ble_eq_true rfl) (cr_rcv rfl rfl (by decide) hK3) rfl rfl rfl (fun q => nomatch q) h
  · have h := h2 (Int.not_lt.mp q)
    refine cq_g (pc' := 33) (ls' := [some (.ref r0), some (.ref r1), some (.int (iI x2)), some (.int (iI x3)), some (.int (iI x4))]) (st' := [.int (iI x4)]) dX3_read_31 (fun _ _ => rfl) ?_
    refine cq_g (pc' := 34) (ls' := [some (.ref r0), some (.ref r1), some (.int (iI x2)), some (.int (iI x3)), some (.int (iI x4))]) (st' := [.ref r1, .int (iI x4)]) dX3_read_33 (fun _ _ => rfl) ?_
    obtain ⟨hK4, h⟩ := h
    refine cq_call (th := false) (rest := [.int (iI x4)]) (ls2 := [some (.ref r1)]) (pc' := 37) dX3_read_34 (fun _ _ => ex_calV rfl (by decide)) rfl (Nat.le_of_ble_eq_true rfl) (Nat.le_of_ble_eq_true rfl) (Nat.le_of_ble_eq_true rfl) (cr_rcv rfl rfl (by decide) hK4) rfl rfl rfl (fun q => nomatch q) (t54 hK4 ?_)
    show CW g B O 20 37 [some (.ref r0), some (.ref r1), some (.int (iI x2)), some (.int (iI x3)), some (.int (iI x4))] [.int (iI ((yT c r1).length : Int)), .int (iI x4)] c Q
    obtain ⟨h1, h2⟩ := h
    refine cq_icmp (t := 51) dX3_read_37 (by decide) (d_eq hx4 (crT hRc hK4)) (fun q => ?_) (fun q => ?_)
    · have h := h1 q
      exact h
    · have h := h2 q
      refine cq_g (pc' := 41) (ls' := [some (.ref r0), some (.ref r1), some (.int (iI x2)), some (.int (iI x3)), some (.int (iI x4))]) (st' := [.ref r1]) dX3_read_40 (fun _ _ => rfl) ?_
      refine cq_g (pc' := 43) (ls' := [some (.ref r0), some (.ref r1), some (.int (iI x2)), some (.int (iI x3)), some (.int (iI x4))]) (st' := [.int (iI x4), .ref r1]) dX3_read_41 (fun _ _ => rfl) ?_
      obtain ⟨hK5, h⟩ := h
      refine cq_call (th := false) (rest := []) (ls2 := [some (.ref r1), some (.int (iI x4))]) (pc' := 46) dX3_read_43 (fun _ _ => ex_calV rfl (by decide)) rfl (Nat.le_of_ble_eq_true rfl) (Nat.le_of_ble_eq_true rfl) (Nat.le_of_ble_eq_true rfl) (cr_rcv rfl rfl (by decide) hK5) rfl rfl rfl (fun q => nomatch q) (t56 hK5 hx4 ?_)
      show CW g B O 20 46 [some (.ref r0), some (.ref r1), some (.int (iI x2)), some (.int (iI x3)), some (.int (iI x4))] [.int (iI (sg (yT c r1) x4))] c Q
      refine cq_bi dX3_read_46 (by decide) ?_
      obtain ⟨h1, h2⟩ := h
      refine cq_icmp (t := 75) dX3_read_48 (by decide) (d_ne (crS hRc hK5) (by decide)) (fun q => ?_) (fun q => ?_)
      · have h := h1 q
        exact h
      · have h := h2 (Decidable.of_not_not q)
        exact h
theorem c20_51 {c : CS} {Q : Rs → CS → Prop} {r0 : Nat} {r1 : Nat} {x2 : Int} {x3 : Int} {x4 : Int}
    (h : yK c r0 = 5 ∧ CW g B O 21 0 [some (.ref r0), some (.int (iI x3)), some (.int (iI x4))] [] c (CK g B O 20 58 [some (.ref r0), some (.ref r1), some (.int (iI x2)), some (.int (iI x3)), some (.int (iI x4))] [] Q false)) (hx2 : (-2147483648 : Int) ≤ x2 ∧ x2 ≤ 2147483647 := by omega) (hx3 : (-2147483648 : Int) ≤ x3 ∧ x3 ≤ 2147483647 := by omega) (hx4 : (-2147483648 : Int) ≤ x4 ∧ x4 ≤ 2147483647 := by omega) :
    CW g B O 20 51 [some (.ref r0), some (.ref r1), some (.int (iI x2)), some (.int (iI x3)), some (.int (iI x4))] [] c Q := by
  refine cq_R (fun hRc => ?_)
  refine cq_g (pc' := 52) (ls' := [some (.ref r0), some (.ref r1), some (.int (iI x2)), some (.int (iI x3)), some (.int (iI x4))]) (st' := [.ref r0]) dX3_read_51 (fun _ _ => rfl) ?_
  refine cq_g (pc' := 53) (ls' := [some (.ref r0), some (.ref r1), some (.int (iI x2)), some (.int (iI x3)), some (.int (iI x4))]) (st' := [.int (iI x3), .ref r0]) dX3_read_52 (fun _ _ => rfl) ?_
  refine cq_g (pc' := 55) (ls' := [some (.ref r0), some (.ref r1), some (.int (iI x2)), some (.int (iI x3)), some (.int (iI x4))]) (st' := [.int (iI x4), .int (iI x3), .ref r0]) dX3_read_53 (fun _ _ => rfl) ?_
  obtain ⟨hK1, h⟩ := h
  exact cq_call (th := false) (rest := []) (ls2 := [some (.ref r0), some (.int (iI x3)), some (.int (iI x4))]) (pc' := 58) dX3_read_55 (fun _ _ => ex_calV rfl (by decide)) rfl (Nat.le_of_ble_eq_true rfl) (Nat.le_of_ble_eq_true rfl) (Nat.le_of_ble_eq_true rfl) (cr_rcv rfl rfl (by decide) hK1) rfl rfl rfl (fun q => nomatch q) h
theorem c20_58 {c : CS} {Q : Rs → CS → Prop} {r0 : Nat} {r1 : Nat} {x2 : Int} {x3 : Int} {x4 : Int} {u0 : Int}
    (h : (u0 = 0 → CW g B O 20 70 [some (.ref r0), some (.ref r1), some (.int (iI x2)), some (.int (iI x3)), some (.int (iI x4))] [] c Q) ∧ (¬ u0 = 0 → yK c r0 = 5 ∧ CW g B O 22 0 [some (.ref r0), some (.int (iI x2)), some (.int (iI x3)), none, none, none, none] [] c (CK g B O 20 67 [some (.ref r0), some (.ref r1), some (.int (iI x2)), some (.int (iI x3)), some (.int (iI x4))] [] Q false))) (hx2 : (-2147483648 : Int) ≤ x2 ∧ x2 ≤ 2147483647 := by omega) (hx3 : (-2147483648 : Int) ≤ x3 ∧ x3 ≤ 2147483647 := by omega) (hx4 : (-2147483648 : Int) ≤ x4 ∧ x4 ≤ 2147483647 := by omega) (hu0 : (-2147483648 : Int) ≤ u0 ∧ u0 ≤ 2147483647 := by omega) :
    CW g B O 20 58 [some (.ref r0), some (.ref r1), some (.int (iI x2)), some (.int (iI x3)), some (.int (iI x4))] [.int (iI u0)] c Q := by
  refine cq_R (fun hRc => ?_)
  obtain ⟨h1, h2⟩ := h
  refine cq_if (t := 70) dX3_read_58 (by decide) (d_eq hu0 (by decide)) (fun q => ?_) (fun q => ?_)
  · have h := h1 q
    exact h
  · have h := h2 q
    refine cq_g (pc' := 62) (ls' := [some (.ref r0), some (.ref r1), some (.int (iI x2)), some (.int (iI x3)), some (.int (iI x4))]) (st' := [.ref r0]) dX3_read_61 (fun _ _ => rfl) ?_
    refine cq_g (pc' := 63) (ls' := [some (.ref r0), some (.ref r1), some (.int (iI x2)), some (.int (iI x3)), some (.int (iI x4))]) (st' := [.int (iI x2), .ref r0]) dX3_read_62 (fun _ _ => rfl) ?_
    refine cq_g (pc' := 64) (ls' := [some (.ref r0), some (.ref r1), some (.int (iI x2)), some (.int (iI x3)), some (.int (iI x4))]) (st' := [.int (iI x3), .int (iI x2), .ref r0]) dX3_read_63 (fun _ _ => rfl) ?_
    obtain ⟨hK1, h⟩ := h
    exact cq_call (th := false) (rest := []) (ls2 := [some (.ref r0), some (.int (iI x2)), some (.int (iI x3)), none, none, none, none]) (pc' := 67) dX3_read_64 (fun _ _ => ex_calV rfl (by decide)) rfl (Nat.le_of_ble_eq_true rfl) (Nat.le_of_ble_eq_true rfl) (Nat.le_of_ble_eq_true rfl) (cr_rcv rfl rfl (by decide) hK1) rfl rfl rfl (fun q => nomatch q) h
theorem c20_67 {c : CS} {Q : Rs → CS → Prop} {r0 : Nat} {r1 : Nat} {l2 : Option Value} {l3 : Option Value} {x4 : Int}
    (h : CW g B O 20 70 [some (.ref r0), some (.ref r1), some (.int (iI x4)), l3, some (.int (iI x4))] [] c Q) (hx4 : (-2147483648 : Int) ≤ x4 ∧ x4 ≤ 2147483647 := by omega) :
    CW g B O 20 67 [some (.ref r0), some (.ref r1), l2, l3, some (.int (iI x4))] [] c Q := by
  refine cq_R (fun hRc => ?_)
  refine cq_g (pc' := 69) (ls' := [some (.ref r0), some (.ref r1), l2, l3, some (.int (iI x4))]) (st' := [.int (iI x4)]) dX3_read_67 (fun _ _ => rfl) ?_
  refine cq_g (pc' := 70) (ls' := [some (.ref r0), some (.ref r1), some (.int (iI x4)), l3, some (.int (iI x4))]) (st' := []) dX3_read_69 (fun _ _ => rfl) ?_
  exact h
theorem c20_70 {c : CS} {Q : Rs → CS → Prop} {r0 : Nat} {r1 : Nat} {x2 : Int} {l3 : Option Value} {x4 : Int}
    (h : ((-2147483648 : Int) ≤ x4 + 1 ∧ x4 + 1 ≤ 2147483647) ∧ CW g B O 20 75 [some (.ref r0), some (.ref r1), some (.int (iI x2)), some (.int (iI (x4 + 1))), some (.int (iI x4))] [] c Q) (hx2 : (-2147483648 : Int) ≤ x2 ∧ x2 ≤ 2147483647 := by omega) (hx4 : (-2147483648 : Int) ≤ x4 ∧ x4 ≤ 2147483647 := by omega) :
    CW g B O 20 70 [some (.ref r0), some (.ref r1), some (.int (iI x2)), l3, some (.int (iI x4))] [] c Q := by
  refine cq_R (fun hRc => ?_)
  refine cq_g (pc' := 72) (ls' := [some (.ref r0), some (.ref r1), some (.int (iI x2)), l3, some (.int (iI x4))]) (st' := [.int (iI x4)]) dX3_read_70 (fun _ _ => rfl) ?_
  refine cq_ic dX3_read_72 ?_
  obtain ⟨hr1, h⟩ := h
  refine cq_add dX3_read_73 ?_
  refine cq_g (pc' := 75) (ls' := [some (.ref r0), some (.ref r1), some (.int (iI x2)), some (.int (iI (x4 + 1))), some (.int (iI x4))]) (st' := []) dX3_read_74 (fun _ _ => rfl) ?_
  exact h
theorem c20_75 {c : CS} {Q : Rs → CS → Prop} {r0 : Nat} {r1 : Nat} {x2 : Int} {x3 : Int} {x4 : Int}
    (h : ((-2147483648 : Int) ≤ x4 + 1 ∧ x4 + 1 ≤ 2147483647) ∧ CW g B O 20 22 [some (.ref r0), some (.ref r1), some (.int (iI x2)), some (.int (iI x3)), some (.int (iI (x4 + 1)))] [] c Q) (hx2 : (-2147483648 : Int) ≤ x2 ∧ x2 ≤ 2147483647 := by omega) (hx3 : (-2147483648 : Int) ≤ x3 ∧ x3 ≤ 2147483647 := by omega) (hx4 : (-2147483648 : Int) ≤ x4 ∧ x4 ≤ 2147483647 := by omega) :
    CW g B O 20 75 [some (.ref r0), some (.ref r1), some (.int (iI x2)), some (.int (iI x3)), some (.int (iI x4))] [] c Q := by
  refine cq_R (fun hRc => ?_)
  obtain ⟨hr1, h⟩ := h
  refine cq_inc (ls' := [some (.ref r0), some (.ref r1), some (.int (iI x2)), some (.int (iI x3)), some (.int (iI (x4 + 1)))]) dX3_read_75 rfl (Nat.le_of_ble_eq_true rfl) rfl ?_
  refine cq_goto (t := 22) dX3_read_78 (by decide) ?_
  exact h
theorem c20_90 {c : CS} {Q : Rs → CS → Prop} {l0 : Option Value} {l1 : Option Value} {l2 : Option Value} {l3 : Option Value} {l4 : Option Value}
    (h : Q (Sum.inl none) c)  :
    CW g B O 20 90 [l0, l1, l2, l3, l4] [] c Q := by
  refine cq_R (fun hRc => ?_)
  exact cq_vret dX3_read_90 rfl h
theorem c21_0 {c : CS} {Q : Rs → CS → Prop} {r0 : Nat} {x1 : Int} {x2 : Int}
    (h : ((-2147483648 : Int) ≤ x2 - x1 ∧ x2 - x1 ≤ 2147483647) ∧ (¬ x2 - x1 = 3 → CW g B O 21 54 [some (.ref r0), some (.int (iI x1)), some (.int (iI x2))] [] c Q) ∧ (x2 - x1 = 3 → yK c r0 = 5 ∧ ∃ b3, yP c r0 0 = some b3 ∧ (yK c b3 = 7 ∧ (¬ sg (yT c b3) x1 = 97 → CW g B O 21 54 [some (.ref r0), some (.int (iI x1)), some (.int (iI x2))] [] c Q) ∧ (sg (yT c b3) x1 = 97 → yK c r0 = 5 ∧ ∃ b6, yP c r0 0 = some b6 ∧ (((-2147483648 : Int) ≤ x1 + 1 ∧ x1 + 1 ≤ 2147483647) ∧ yK c b6 = 7 ∧ (¬ sg (yT c b6) (x1 + 1) = 110 → CW g B O 21 54 [some (.ref r0), some (.int (iI x1)), some (.int (iI x2))] [] c Q) ∧ (sg (yT c b6) (x1 + 1) = 110 → yK c r0 = 5 ∧ ∃ b10, yP c r0 0 = some b10 ∧ (((-2147483648 : Int) ≤ x1 + 2 ∧ x1 + 2 ≤ 2147483647) ∧ yK c b10 = 7 ∧ (¬ sg (yT c b10) (x1 + 2) = 100 → CW g B O 21 54 [some (.ref r0), some (.int (iI x1)), some (.int (iI x2))] [] c Q) ∧ (sg (yT c b10) (x1 + 2) = 100 → CW g B O 21 55 [some (.ref r0), some (.int (iI x1)), some (.int (iI x2))] [.int (iI 1)] c Q)))))))) (hx1 : (-2147483648 : Int) ≤ x1 ∧ x1 ≤ 2147483647 := by omega) (hx2 : (-2147483648 : Int) ≤ x2 ∧ x2 ≤ 2147483647 := by omega) :
    CW g B O 21 0 [some (.ref r0), some (.int (iI x1)), some (.int (iI x2))] [] c Q := by
  refine cq_R (fun hRc => ?_)
  refine cq_g (pc' := 1) (ls' := [some (.ref r0), some (.int (iI x1)), some (.int (iI x2))]) (st' := [.int (iI x2)]) dX3_isAnd_0 (fun _ _ => rfl) ?_
  refine cq_g (pc' := 2) (ls' := [some (.ref r0), some (.int (iI x1)), some (.int (iI x2))]) (st' := [.int (iI x1), .int (iI x2)]) dX3_isAnd_1 (fun _ _ => rfl) ?_
  obtain ⟨hr1, h⟩ := h
  refine cq_sub dX3_isAnd_2 ?_
  refine cq_ic dX3_isAnd_3 ?_
  obtain ⟨h1, h2⟩ := h
  refine cq_icmp (t := 54) dX3_isAnd_4 (by decide) (d_ne hr1 (by decide)) (fun q => ?_) (fun q => ?_)
  · have h := h1 q
    exact h
  · have h := h2 (Decidable.of_not_not q)
    refine cq_g (pc' := 8) (ls' := [some (.ref r0), some (.int (iI x1)), some (.int (iI x2))]) (st' := [.ref r0]) dX3_isAnd_7 (fun _ _ => rfl) ?_
    obtain ⟨hK2, b3, hP, h⟩ := h
    refine cq_getP dX3_isAnd_8 rfl (by decide) rfl (by unfold plK; decide) hK2 hP ?_
    refine cq_g (pc' := 12) (ls' := [some (.ref r0), some (.int (iI x1)), some (.int (iI x2))]) (st' := [.int (iI x1), .ref b3]) dX3_isAnd_11 (fun _ _ => rfl) ?_
    obtain ⟨hK4, h⟩ := h
    refine cq_call (th := false) (rest := []) (ls2 := [some (.ref b3), some (.int (iI x1))]) (pc' := 15) dX3_isAnd_12 (fun _ _ => ex_calV rfl (by decide)) rfl (Nat.le_of_ble_eq_true rfl) (Nat.le_of_ble_eq_true rfl) (Nat.le_of_ble_eq_true rfl) (cr_rcv rfl rfl (by decide) hK4) rfl rfl rfl (fun q => nomatch q) (t56 hK4 hx1 ?_)
    show CW g B O 21 15 [some (.ref r0), some (.int (iI x1)), some (.int (iI x2))] [.int (iI (sg (yT c b3) x1))] c Q
    refine cq_bi dX3_isAnd_15 (by decide) ?_
    obtain ⟨h1, h2⟩ := h
    refine cq_icmp (t := 54) dX3_isAnd_17 (by decide) (d_ne (crS hRc hK4) (by decide)) (fun q => ?_) (fun q => ?_)
    · have h := h1 q
      exact h
    · have h := h2 (Decidable.of_not_not q)
      refine cq_g (pc' := 21) (ls' := [some (.ref r0), some (.int (iI x1)), some (.int (iI x2))]) (st' := [.ref r0]) dX3_isAnd_20 (fun _ _ => rfl) ?_
      obtain ⟨hK5, b6, hP, h⟩ := h
      refine cq_getP dX3_isAnd_21 rfl (by decide) rfl (by unfold plK; decide) hK5 hP ?_
      refine cq_g (pc' := 25) (ls' := [some (.ref r0), some (.int (iI x1)), some (.int (iI x2))]) (st' := [.int (iI x1), .ref b6]) dX3_isAnd_24 (fun _ _ => rfl) ?_
      refine cq_ic dX3_isAnd_25 ?_
      obtain ⟨hr7, h⟩ := h
      refine cq_add dX3_isAnd_26 ?_
      obtain ⟨hK8, h⟩ := h
      refine cq_call (th := false) (rest := []) (ls2 := [some (.ref b6), some (.int (iI (x1 + 1)))]) (pc' := 30) dX3_isAnd_27 (fun _ _ => ex_calV rfl (by decide)) rfl (Nat.le_of_ble_eq_true rfl) (Nat.le_of_ble_eq_true rfl) (Nat.le_of_ble_eq_true rfl) (cr_rcv rfl rfl (by decide) hK8) rfl rfl rfl (fun q => nomatch q) (t56 hK8 hr7 ?_)
      show CW g B O 21 30 [some (.ref r0), some (.int (iI x1)), some (.int (iI x2))] [.int (iI (sg (yT c b6) (x1 + 1)))] c Q
      refine cq_bi dX3_isAnd_30 (by decide) ?_
      obtain ⟨h1, h2⟩ := h
      refine cq_icmp (t := 54) dX3_isAnd_32 (by decide) (d_ne (crS hRc hK8) (by decide)) (fun q => ?_) (fun q => ?_)
      · have h := h1 q
        exact h
      · have h := h2 (Decidable.of_not_not q)
        refine cq_g (pc' := 36) (ls' := [some (.ref r0), some (.int (iI x1)), some (.int (iI x2))]) (st' := [.ref r0]) dX3_isAnd_35 (fun _ _ => rfl) ?_
        obtain ⟨hK9, b10, hP, h⟩ := h
        refine cq_getP dX3_isAnd_36 rfl (by decide) rfl (by unfold plK; decide) hK9 hP ?_
        refine cq_g (pc' := 40) (ls' := [some (.ref r0), some (.int (iI x1)), some (.int (iI x2))]) (st' := [.int (iI x1), .ref b10]) dX3_isAnd_39 (fun _ _ => rfl) ?_
        refine cq_ic dX3_isAnd_40 ?_
        obtain ⟨hr11, h⟩ := h
        refine cq_add dX3_isAnd_41 ?_
        obtain ⟨hK12, h⟩ := h
        refine cq_call (th := false) (rest := []) (ls2 := [some (.ref b10), some (.int (iI (x1 + 2)))]) (pc' := 45) dX3_isAnd_42 (fun _ _ => ex_calV rfl (by decide)) rfl (Nat.le_of_ble_eq_true rfl) (Nat.le_of_ble_eq_true rfl) (Nat.le_of_ble_eq_true rfl) (cr_rcv rfl rfl (by decide) hK12) rfl rfl rfl (fun q => nomatch q) (t56 hK12 hr11 ?_)
        show CW g B O 21 45 [some (.ref r0), some (.int (iI x1)), some (.int (iI x2))] [.int (iI (sg (yT c b10) (x1 + 2)))] c Q
        refine cq_bi dX3_isAnd_45 (by decide) ?_
        obtain ⟨h1, h2⟩ := h
        refine cq_icmp (t := 54) dX3_isAnd_47 (by decide) (d_ne (crS hRc hK12) (by decide)) (fun q => ?_) (fun q => ?_)
        · have h := h1 q
          exact h
        · have h := h2 (Decidable.of_not_not q)
          refine cq_ic dX3_isAnd_50 ?_
          refine cq_goto (t := 55) dX3_isAnd_51 (by decide) ?_
          exact h
theorem c21_54 {c : CS} {Q : Rs → CS → Prop} {l0 : Option Value} {l1 : Option Value} {l2 : Option Value}
    (h : CW g B O 21 55 [l0, l1, l2] [.int (iI 0)] c Q)  :
    CW g B O 21 54 [l0, l1, l2] [] c Q := by
  refine cq_R (fun hRc => ?_)
  refine cq_ic dX3_isAnd_54 ?_
  exact h
theorem c21_55 {c : CS} {Q : Rs → CS → Prop} {l0 : Option Value} {l1 : Option Value} {l2 : Option Value} {u0 : Int}
    (h : (u0 = 0 ∨ u0 = 1) ∧ Q (Sum.inl (some (.int (iI u0)))) c) (hu0 : (-2147483648 : Int) ≤ u0 ∧ u0 ≤ 2147483647 := by omega) :
    CW g B O 21 55 [l0, l1, l2] [.int (iI u0)] c Q := by
  refine cq_R (fun hRc => ?_)
  obtain ⟨hn, h⟩ := h
  exact cq_ret dX3_isAnd_55 (by rcases hn with q | q <;> rw [q] <;> rfl) h
theorem c22_0 {c : CS} {Q : Rs → CS → Prop} {r0 : Nat} {x1 : Int} {x2 : Int} {l3 : Option Value} {l4 : Option Value} {l5 : Option Value} {l6 : Option Value}
    (h : CW g B O 22 2 [some (.ref r0), some (.int (iI x1)), some (.int (iI x2)), some (.int (iI x1)), l4, l5, l6] [] c Q) (hx1 : (-2147483648 : Int) ≤ x1 ∧ x1 ≤ 2147483647 := by omega) (hx2 : (-2147483648 : Int) ≤ x2 ∧ x2 ≤ 2147483647 := by omega) :
    CW g B O 22 0 [some (.ref r0), some (.int (iI x1)), some (.int (iI x2)), l3, l4, l5, l6] [] c Q := by
  refine cq_R (fun hRc => ?_)
  refine cq_g (pc' := 1) (ls' := [some (.ref r0), some (.int (iI x1)), some (.int (iI x2)), l3, l4, l5, l6]) (st' := [.int (iI x1)]) dX3_readPerson_0 (fun _ _ => rfl) ?_
  refine cq_g (pc' := 2) (ls' := [some (.ref r0), some (.int (iI x1)), some (.int (iI x2)), some (.int (iI x1)), l4, l5, l6]) (st' := []) dX3_readPerson_1 (fun _ _ => rfl) ?_
  exact h
theorem c22_2 {c : CS} {Q : Rs → CS → Prop} {r0 : Nat} {x1 : Int} {x2 : Int} {x3 : Int} {l4 : Option Value} {l5 : Option Value} {l6 : Option Value}
    (h : (x2 ≤ x3 → CW g B O 22 26 [some (.ref r0), some (.int (iI x1)), some (.int (iI x2)), some (.int (iI x3)), l4, l5, l6] [] c Q) ∧ (x3 < x2 → yK c r0 = 5 ∧ ∃ b2, yP c r0 0 = some b2 ∧ (yK c b2 = 7 ∧ (sg (yT c b2) x3 = 44 → CW g B O 22 26 [some (.ref r0), some (.int (iI x1)), some (.int (iI x2)), some (.int (iI x3)), l4, l5, l6] [] c Q) ∧ (¬ sg (yT c b2) x3 = 44 → ((-2147483648 : Int) ≤ x3 + 1 ∧ x3 + 1 ≤ 2147483647) ∧ CW g B O 22 2 [some (.ref r0), some (.int (iI x1)), some (.int (iI x2)), some (.int (iI (x3 + 1))), l4, l5, l6] [] c Q)))) (hx1 : (-2147483648 : Int) ≤ x1 ∧ x1 ≤ 2147483647 := by omega) (hx2 : (-2147483648 : Int) ≤ x2 ∧ x2 ≤ 2147483647 := by omega) (hx3 : (-2147483648 : Int) ≤ x3 ∧ x3 ≤ 2147483647 := by omega) :
    CW g B O 22 2 [some (.ref r0), some (.int (iI x1)), some (.int (iI x2)), some (.int (iI x3)), l4, l5, l6] [] c Q := by
  refine cq_R (fun hRc => ?_)
  refine cq_g (pc' := 3) (ls' := [some (.ref r0), some (.int (iI x1)), some (.int (iI x2)), some (.int (iI x3)), l4, l5, l6]) (st' := [.int (iI x3)]) dX3_readPerson_2 (fun _ _ => rfl) ?_
  refine cq_g (pc' := 4) (ls' := [some (.ref r0), some (.int (iI x1)), some (.int (iI x2)), some (.int (iI x3)), l4, l5, l6]) (st' := [.int (iI x2), .int (iI x3)]) dX3_readPerson_3 (fun _ _ => rfl) ?_
  obtain ⟨h1, h2⟩ := h
  refine cq_icmp (t := 26) dX3_readPerson_4 (by decide) (d_ge hx3 hx2) (fun q => ?_) (fun q => ?_)
  · have h := h1 q
    exact h
  · have h := h2 (Int.not_le.mp q)
    refine cq_g (pc' := 8) (ls' := [some (.ref r0), some (.int (iI x1)), some (.int (iI x2)), some (.int (iI x3)), l4, l5, l6]) (st' := [.ref r0]) dX3_readPerson_7 (fun _ _ => rfl) ?_
    obtain ⟨hK1, b2, hP, h⟩ := h
    refine cq_getP dX3_readPerson_8 rfl (by decide) rfl (by unfold plK; decide) hK1 hP ?_
    refine cq_g (pc' := 12) (ls' := [some (.ref r0), some (.int (iI x1)), some (.int (iI x2)), some (.int (iI x3)), l4, l5, l6]) (st' := [.int (iI x3), .ref b2]) dX3_readPerson_11 (fun _ _ => rfl) ?_
    obtain ⟨hK3, h⟩ := h
    refine cq_call (th := false) (rest := []) (ls2 := [some (.ref b2), some (.int (iI x3))]) (pc' := 15) dX3_readPerson_12 (fun _ _ => ex_calV rfl (by decide)) rfl (Nat.le_of_ble_eq_true rfl) (Nat.le_of_ble_eq_true rfl) (Nat.le_of_ble_eq_true rfl) (cr_rcv rfl rfl (by decide) hK3) rfl rfl rfl (fun q => nomatch q) (t56 hK3 hx3 ?_)
    show CW g B O 22 15 [some (.ref r0), some (.int (iI x1)), some (.int (iI x2)), some (.int (iI x3)), l4, l5, l6] [.int (iI (sg (yT c b2) x3))] c Q
    refine cq_bi dX3_readPerson_15 (by decide) ?_
    obtain ⟨h1, h2⟩ := h
    refine cq_icmp (t := 26) dX3_readPerson_17 (by decide) (d_eq (crS hRc hK3) (by decide)) (fun q => ?_) (fun q => ?_)
    · have h := h1 q
      exact h
    · have h := h2 q
      obtain ⟨hr4, h⟩ := h
      refine cq_inc (ls' := [some (.ref r0), some (.int (iI x1)), some (.int (iI x2)), some (.int (iI (x3 + 1))), l4, l5, l6]) dX3_readPerson_20 rfl (Nat.le_of_ble_eq_true rfl) rfl ?_
      refine cq_goto (t := 2) dX3_readPerson_23 (by decide) ?_
      exact h
theorem c22_26 {c : CS} {Q : Rs → CS → Prop} {r0 : Nat} {x1 : Int} {x2 : Int} {x3 : Int} {l4 : Option Value} {l5 : Option Value} {l6 : Option Value}
    (h : yK c r0 = 5 ∧ yK c r0 = 5 ∧ CW g B O 23 0 [some (.ref r0), some (.int (iI x1)), some (.int (iI x3)), none, none] [] c (CK g B O 22 38 [some (.ref r0), some (.int (iI x1)), some (.int (iI x2)), some (.int (iI x3)), some (.int (iI (yI c r0 3))), l5, l6] [] Q false)) (hx1 : (-2147483648 : Int) ≤ x1 ∧ x1 ≤ 2147483647 := by omega) (hx2 : (-2147483648 : Int) ≤ x2 ∧ x2 ≤ 2147483647 := by omega) (hx3 : (-2147483648 : Int) ≤ x3 ∧ x3 ≤ 2147483647 := by omega) :
    CW g B O 22 26 [some (.ref r0), some (.int (iI x1)), some (.int (iI x2)), some (.int (iI x3)), l4, l5, l6] [] c Q := by
  refine cq_R (fun hRc => ?_)
  refine cq_g (pc' := 27) (ls' := [some (.ref r0), some (.int (iI x1)), some (.int (iI x2)), some (.int (iI x3)), l4, l5, l6]) (st' := [.ref r0]) dX3_readPerson_26 (fun _ _ => rfl) ?_
  obtain ⟨hK1, h⟩ := h
  refine cq_getI dX3_readPerson_27 rfl (by decide) rfl (by unfold plK; decide) hK1 ?_
  refine cq_g (pc' := 32) (ls' := [some (.ref r0), some (.int (iI x1)), some (.int (iI x2)), some (.int (iI x3)), some (.int (iI (yI c r0 3))), l5, l6]) (st' := []) dX3_readPerson_30 (fun _ _ => rfl) ?_
  refine cq_g (pc' := 33) (ls' := [some (.ref r0), some (.int (iI x1)), some (.int (iI x2)), some (.int (iI x3)), some (.int (iI (yI c r0 3))), l5, l6]) (st' := [.ref r0]) dX3_readPerson_32 (fun _ _ => rfl) ?_
  refine cq_g (pc' := 34) (ls' := [some (.ref r0), some (.int (iI x1)), some (.int (iI x2)), some (.int (iI x3)), some (.int (iI (yI c r0 3))), l5, l6]) (st' := [.int (iI x1), .ref r0]) dX3_readPerson_33 (fun _ _ => rfl) ?_
  refine cq_g (pc' := 35) (ls' := [some (.ref r0), some (.int (iI x1)), some (.int (iI x2)), some (.int (iI x3)), some (.int (iI (yI c r0 3))), l5, l6]) (st' := [.int (iI x3), .int (iI x1), .ref r0]) dX3_readPerson_34 (fun _ _ => rfl) ?_
  obtain ⟨hK2, h⟩ := h
  exact cq_call (th := false) (rest := []) (ls2 := [some (.ref r0), some (.int (iI x1)), some (.int (iI x3)), none, none]) (pc' := 38) dX3_readPerson_35 (fun _ _ => ex_calV rfl (by decide)) rfl (Nat.le_of_ble_eq_true rfl) (Nat.le_of_ble_eq_true rfl) (Nat.le_of_ble_eq_true rfl) (cr_rcv rfl rfl (by decide) hK2) rfl rfl rfl (fun q => nomatch q) h
theorem c22_38 {c : CS} {Q : Rs → CS → Prop} {r0 : Nat} {l1 : Option Value} {x2 : Int} {x3 : Int} {x4 : Int} {l5 : Option Value} {l6 : Option Value}
    (h : yK c r0 = 5 ∧ yK c r0 = 5 ∧ CW g B O 23 0 [some (.ref r0), some (.int (iI x3)), some (.int (iI x2)), none, none] [] c (CK g B O 22 50 [some (.ref r0), l1, some (.int (iI x2)), some (.int (iI x3)), some (.int (iI x4)), some (.int (iI (yI c r0 3))), l6] [] Q false)) (hx2 : (-2147483648 : Int) ≤ x2 ∧ x2 ≤ 2147483647 := by omega) (hx3 : (-2147483648 : Int) ≤ x3 ∧ x3 ≤ 2147483647 := by omega) (hx4 : (-2147483648 : Int) ≤ x4 ∧ x4 ≤ 2147483647 := by omega) :
    CW g B O 22 38 [some (.ref r0), l1, some (.int (iI x2)), some (.int (iI x3)), some (.int (iI x4)), l5, l6] [] c Q := by
  refine cq_R (fun hRc => ?_)
  refine cq_g (pc' := 39) (ls' := [some (.ref r0), l1, some (.int (iI x2)), some (.int (iI x3)), some (.int (iI x4)), l5, l6]) (st' := [.ref r0]) dX3_readPerson_38 (fun _ _ => rfl) ?_
  obtain ⟨hK1, h⟩ := h
  refine cq_getI dX3_readPerson_39 rfl (by decide) rfl (by unfold plK; decide) hK1 ?_
  refine cq_g (pc' := 44) (ls' := [some (.ref r0), l1, some (.int (iI x2)), some (.int (iI x3)), some (.int (iI x4)), some (.int (iI (yI c r0 3))), l6]) (st' := []) dX3_readPerson_42 (fun _ _ => rfl) ?_
  refine cq_g (pc' := 45) (ls' := [some (.ref r0), l1, some (.int (iI x2)), some (.int (iI x3)), some (.int (iI x4)), some (.int (iI (yI c r0 3))), l6]) (st' := [.ref r0]) dX3_readPerson_44 (fun _ _ => rfl) ?_
  refine cq_g (pc' := 46) (ls' := [some (.ref r0), l1, some (.int (iI x2)), some (.int (iI x3)), some (.int (iI x4)), some (.int (iI (yI c r0 3))), l6]) (st' := [.int (iI x3), .ref r0]) dX3_readPerson_45 (fun _ _ => rfl) ?_
  refine cq_g (pc' := 47) (ls' := [some (.ref r0), l1, some (.int (iI x2)), some (.int (iI x3)), some (.int (iI x4)), some (.int (iI (yI c r0 3))), l6]) (st' := [.int (iI x2), .int (iI x3), .ref r0]) dX3_readPerson_46 (fun _ _ => rfl) ?_
  obtain ⟨hK2, h⟩ := h
  exact cq_call (th := false) (rest := []) (ls2 := [some (.ref r0), some (.int (iI x3)), some (.int (iI x2)), none, none]) (pc' := 50) dX3_readPerson_47 (fun _ _ => ex_calV rfl (by decide)) rfl (Nat.le_of_ble_eq_true rfl) (Nat.le_of_ble_eq_true rfl) (Nat.le_of_ble_eq_true rfl) (cr_rcv rfl rfl (by decide) hK2) rfl rfl rfl (fun q => nomatch q) h
theorem c22_50 {c : CS} {Q : Rs → CS → Prop} {r0 : Nat} {l1 : Option Value} {x2 : Int} {x3 : Int} {x4 : Int} {x5 : Int} {l6 : Option Value}
    (h : yK c r0 = 5 ∧ (yI c r0 3 ≤ x4 → CW g B O 22 91 [some (.ref r0), l1, some (.int (iI x2)), some (.int (iI x3)), some (.int (iI x4)), some (.int (iI x5)), l6] [] c Q) ∧ (x4 < yI c r0 3 → yK c r0 = 5 ∧ CW g B O 24 0 [some (.ref r0)] [] c (CK g B O 22 63 [some (.ref r0), l1, some (.int (iI x2)), some (.int (iI x3)), some (.int (iI x4)), some (.int (iI x5)), l6] [] Q false))) (hx2 : (-2147483648 : Int) ≤ x2 ∧ x2 ≤ 2147483647 := by omega) (hx3 : (-2147483648 : Int) ≤ x3 ∧ x3 ≤ 2147483647 := by omega) (hx4 : (-2147483648 : Int) ≤ x4 ∧ x4 ≤ 2147483647 := by omega) (hx5 : (-2147483648 : Int) ≤ x5 ∧ x5 ≤ 2147483647 := by omega) :
    CW g B O 22 50 [some (.ref r0), l1, some (.int (iI x2)), some (.int (iI x3)), some (.int (iI x4)), some (.int (iI x5)), l6] [] c Q := by
  refine cq_R (fun hRc => ?_)
  refine cq_g (pc' := 51) (ls' := [some (.ref r0), l1, some (.int (iI x2)), some (.int (iI x3)), some (.int (iI x4)), some (.int (iI x5)), l6]) (st' := [.ref r0]) dX3_readPerson_50 (fun _ _ => rfl) ?_
  obtain ⟨hK1, h⟩ := h
  refine cq_getI dX3_readPerson_51 rfl (by decide) rfl (by unfold plK; decide) hK1 ?_
  refine cq_g (pc' := 56) (ls' := [some (.ref r0), l1, some (.int (iI x2)), some (.int (iI x3)), some (.int (iI x4)), some (.int (iI x5)), l6]) (st' := [.int (iI x4), .int (iI (yI c r0 3))]) dX3_readPerson_54 (fun _ _ => rfl) ?_
  obtain ⟨h1, h2⟩ := h
  refine cq_icmp (t := 91) dX3_readPerson_56 (by decide) (d_le (hRc.1 _ _) hx4) (fun q => ?_) (fun q => ?_)
  · have h := h1 q
    exact h
  · have h := h2 (Int.not_le.mp q)
    refine cq_g (pc' := 60) (ls' := [some (.ref r0), l1, some (.int (iI x2)), some (.int (iI x3)), some (.int (iI x4)), some (.int (iI x5)), l6]) (st' := [.ref r0]) dX3_readPerson_59 (fun _ _ => rfl) ?_
    obtain ⟨hK2, h⟩ := h
    exact cq_call (th := false) (rest := []) (ls2 := [some (.ref r0)]) (pc' := 63) dX3_readPerson_60 (fun _ _ => ex_calV rfl (by decide)) rfl (Nat.le_of_ble_eq_true rfl) (Nat.le_of_ble_eq_true rfl) (Nat.le_of_ble_eq_true rfl) (cr_rcv rfl rfl (by decide) hK2) rfl rfl rfl (fun q => nomatch q) h
theorem c22_63 {c : CS} {Q : Rs → CS → Prop} {r0 : Nat} {l1 : Option Value} {x2 : Int} {x3 : Int} {x4 : Int} {x5 : Int} {l6 : Option Value} {w0 : Nat}
    (h : (x2 ≤ x3 → yK c r0 = 5 ∧ CW g B O 26 0 [some (.ref r0), some (.ref w0), some (.int (iI x4)), none, none, none] [] c (CK g B O 22 91 [some (.ref r0), l1, some (.int (iI x2)), some (.int (iI x3)), some (.int (iI x4)), some (.int (iI x5)), some (.ref w0)] [] Q false)) ∧ (x3 < x2 → yK c r0 = 5 ∧ CW g B O 25 0 [some (.ref r0), some (.ref w0), some (.int (iI x4)), some (.int (iI x5)), none] [] c (CK g B O 22 80 [some (.ref r0), l1, some (.int (iI x2)), some (.int (iI x3)), some (.int (iI x4)), some (.int (iI x5)), some (.ref w0)] [] Q false))) (hx2 : (-2147483648 : Int) ≤ x2 ∧ x2 ≤ 2147483647 := by omega) (hx3 : (-2147483648 : Int) ≤ x3 ∧ x3 ≤ 2147483647 := by omega) (hx4 : (-2147483648 : Int) ≤ x4 ∧ x4 ≤ 2147483647 := by omega) (hx5 : (-2147483648 : Int) ≤ x5 ∧ x5 ≤ 2147483647 := by omega) :
    CW g B O 22 63 [some (.ref r0), l1, some (.int (iI x2)), some (.int (iI x3)), some (.int (iI x4)), some (.int (iI x5)), l6] [.ref w0] c Q := by
  refine cq_R (fun hRc => ?_)
  refine cq_g (pc' := 65) (ls' := [some (.ref r0), l1, some (.int (iI x2)), some (.int (iI x3)), some (.int (iI x4)), some (.int (iI x5)), some (.ref w0)]) (st' := []) dX3_readPerson_63 (fun _ _ => rfl) ?_
  refine cq_g (pc' := 66) (ls' := [some (.ref r0), l1, some (.int (iI x2)), some (.int (iI x3)), some (.int (iI x4)), some (.int (iI x5)), some (.ref w0)]) (st' := [.int (iI x3)]) dX3_readPerson_65 (fun _ _ => rfl) ?_
  refine cq_g (pc' := 67) (ls' := [some (.ref r0), l1, some (.int (iI x2)), some (.int (iI x3)), some (.int (iI x4)), some (.int (iI x5)), some (.ref w0)]) (st' := [.int (iI x2), .int (iI x3)]) dX3_readPerson_66 (fun _ _ => rfl) ?_
  obtain ⟨h1, h2⟩ := h
  refine cq_icmp (t := 83) dX3_readPerson_67 (by decide) (d_ge hx3 hx2) (fun q => ?_) (fun q => ?_)
  · have h := h1 q
    refine cq_g (pc' := 84) (ls' := [some (.ref r0), l1, some (.int (iI x2)), some (.int (iI x3)), some (.int (iI x4)), some (.int (iI x5)), some (.ref w0)]) (st' := [.ref r0]) dX3_readPerson_83 (fun _ _ => rfl) ?_
    refine cq_g (pc' := 86) (ls' := [some (.ref r0), l1, some (.int (iI x2)), some (.int (iI x3)), some (.int (iI x4)), some (.int (iI x5)), some (.ref w0)]) (st' := [.ref w0, .ref r0]) dX3_readPerson_84 (fun _ _ => rfl) ?_
    refine cq_g (pc' := 88) (ls' := [some (.ref r0), l1, some (.int (iI x2)), some (.int (iI x3)), some (.int (iI x4)), some (.int (iI x5)), some (.ref w0)]) (st' := [.int (iI x4), .ref w0, .ref r0]) dX3_readPerson_86 (fun _ _ => rfl) ?_
    obtain ⟨hK1, h⟩ := h
    exact cq_call (th := false) (rest := []) (ls2 := [some (.ref r0), some (.ref w0), some (.int (iI x4)), none, none, none]) (pc' := 91) dX3_readPerson_88 (fun _ _ => ex_calV rfl (by decide)) rfl (Nat.le_of_ble_eq_true rfl) (Nat.le_of_ble_eq_true rfl) (Nat.le_of_ble_eq_true rfl) (cr_rcv rfl rfl (by decide) hK1) rfl rfl rfl (fun q => nomatch q) h
  · have h := h2 (Int.not_le.mp q)
    refine cq_g (pc' := 71) (ls' := [some (.ref r0), l1, some (.int (iI x2)), some (.int (iI x3)), some (.int (iI x4)), some (.int (iI x5)), some (.ref w0)]) (st' := [.ref r0]) dX3_readPerson_70 (fun _ _ => rfl) ?_
    refine cq_g (pc' := 73) (ls' := [some (.ref r0), l1, some (.int (iI x2)), some (.int (iI x3)), some (.int (iI x4)), some (.int (iI x5)), some (.ref w0)]) (st' := [.ref w0, .ref r0]) dX3_readPerson_71 (fun _ _ => rfl) ?_
    refine cq_g (pc' := 75) (ls' := [some (.ref r0), l1, some (.int (iI x2)), some (.int (iI x3)), some (.int (iI x4)), some (.int (iI x5)), some (.ref w0)]) (st' := [.int (iI x4), .ref w0, .ref r0]) dX3_readPerson_73 (fun _ _ => rfl) ?_
    refine cq_g (pc' := 77) (ls' := [some (.ref r0), l1, some (.int (iI x2)), some (.int (iI x3)), some (.int (iI x4)), some (.int (iI x5)), some (.ref w0)]) (st' := [.int (iI x5), .int (iI x4), .ref w0, .ref r0]) dX3_readPerson_75 (fun _ _ => rfl) ?_
    obtain ⟨hK2, h⟩ := h
    exact cq_call (th := false) (rest := []) (ls2 := [some (.ref r0), some (.ref w0), some (.int (iI x4)), some (.int (iI x5)), none]) (pc' := 80) dX3_readPerson_77 (fun _ _ => ex_calV rfl (by decide)) rfl (Nat.le_of_ble_eq_true rfl) (Nat.le_of_ble_eq_true rfl) (Nat.le_of_ble_eq_true rfl) (cr_rcv rfl rfl (by decide) hK2) rfl rfl rfl (fun q => nomatch q) h
theorem c22_80 {c : CS} {Q : Rs → CS → Prop} {l0 : Option Value} {l1 : Option Value} {l2 : Option Value} {l3 : Option Value} {l4 : Option Value} {l5 : Option Value} {l6 : Option Value}
    (h : CW g B O 22 91 [l0, l1, l2, l3, l4, l5, l6] [] c Q)  :
    CW g B O 22 80 [l0, l1, l2, l3, l4, l5, l6] [] c Q := by
  refine cq_R (fun hRc => ?_)
  refine cq_goto (t := 91) dX3_readPerson_80 (by decide) ?_
  exact h
theorem c22_91 {c : CS} {Q : Rs → CS → Prop} {l0 : Option Value} {l1 : Option Value} {l2 : Option Value} {l3 : Option Value} {l4 : Option Value} {l5 : Option Value} {l6 : Option Value}
    (h : Q (Sum.inl none) c)  :
    CW g B O 22 91 [l0, l1, l2, l3, l4, l5, l6] [] c Q := by
  refine cq_R (fun hRc => ?_)
  exact cq_vret dX3_readPerson_91 rfl h
theorem c23_0 {c : CS} {Q : Rs → CS → Prop} {r0 : Nat} {x1 : Int} {x2 : Int} {l3 : Option Value} {l4 : Option Value}
    (h : CW g B O 23 5 [some (.ref r0), some (.int (iI x1)), some (.int (iI x2)), some (.int (iI x1)), some (.int (iI x1))] [] c Q) (hx1 : (-2147483648 : Int) ≤ x1 ∧ x1 ≤ 2147483647 := by omega) (hx2 : (-2147483648 : Int) ≤ x2 ∧ x2 ≤ 2147483647 := by omega) :
    CW g B O 23 0 [some (.ref r0), some (.int (iI x1)), some (.int (iI x2)), l3, l4] [] c Q := by
  refine cq_R (fun hRc => ?_)
  refine cq_g (pc' := 1) (ls' := [some (.ref r0), some (.int (iI x1)), some (.int (iI x2)), l3, l4]) (st' := [.int (iI x1)]) dX3_readWords_0 (fun _ _ => rfl) ?_
  refine cq_g (pc' := 2) (ls' := [some (.ref r0), some (.int (iI x1)), some (.int (iI x2)), some (.int (iI x1)), l4]) (st' := []) dX3_readWords_1 (fun _ _ => rfl) ?_
  refine cq_g (pc' := 3) (ls' := [some (.ref r0), some (.int (iI x1)), some (.int (iI x2)), some (.int (iI x1)), l4]) (st' := [.int (iI x1)]) dX3_readWords_2 (fun _ _ => rfl) ?_
  refine cq_g (pc' := 5) (ls' := [some (.ref r0), some (.int (iI x1)), some (.int (iI x2)), some (.int (iI x1)), some (.int (iI x1))]) (st' := []) dX3_readWords_3 (fun _ _ => rfl) ?_
  exact h
theorem c23_5 {c : CS} {Q : Rs → CS → Prop} {r0 : Nat} {l1 : Option Value} {x2 : Int} {x3 : Int} {x4 : Int}
    (h : (x2 < x4 → Q (Sum.inl none) c) ∧ (x4 ≤ x2 → (x4 = x2 → CW g B O 23 45 [some (.ref r0), l1, some (.int (iI x2)), some (.int (iI x3)), some (.int (iI x4))] [] c Q) ∧ (¬ x4 = x2 → yK c r0 = 5 ∧ ∃ b2, yP c r0 0 = some b2 ∧ (yK c b2 = 7 ∧ (sg (yT c b2) x4 = 32 → CW g B O 23 45 [some (.ref r0), l1, some (.int (iI x2)), some (.int (iI x3)), some (.int (iI x4))] [] c Q) ∧ (¬ sg (yT c b2) x4 = 32 → yK c r0 = 5 ∧ ∃ b5, yP c r0 0 = some b5 ∧ (yK c b5 = 7 ∧ (¬ sg (yT c b5) x4 = 44 → CW g B O 23 96 [some (.ref r0), l1, some (.int (iI x2)), some (.int (iI x3)), some (.int (iI x4))] [] c Q) ∧ (sg (yT c b5) x4 = 44 → CW g B O 23 45 [some (.ref r0), l1, some (.int (iI x2)), some (.int (iI x3)), some (.int (iI x4))] [] c Q))))))) (hx2 : (-2147483648 : Int) ≤ x2 ∧ x2 ≤ 2147483647 := by omega) (hx3 : (-2147483648 : Int) ≤ x3 ∧ x3 ≤ 2147483647 := by omega) (hx4 : (-2147483648 : Int) ≤ x4 ∧ x4 ≤ 2147483647 := by omega) :
    CW g B O 23 5 [some (.ref r0), l1, some (.int (iI x2)), some (.int (iI x3)), some (.int (iI x4))] [] c Q := by
  refine cq_R (fun hRc => ?_)
  refine cq_g (pc' := 7) (ls' := [some (.ref r0), l1, some (.int (iI x2)), some (.int (iI x3)), some (.int (iI x4))]) (st' := [.int (iI x4)]) dX3_readWords_5 (fun _ _ => rfl) ?_
  refine cq_g (pc' := 8) (ls' := [some (.ref r0), l1, some (.int (iI x2)), some (.int (iI x3)), some (.int (iI x4))]) (st' := [.int (iI x2), .int (iI x4)]) dX3_readWords_7 (fun _ _ => rfl) ?_
  obtain ⟨h1, h2⟩ := h
  refine cq_icmp (t := 102) dX3_readWords_8 (by decide) (d_gt hx4 hx2) (fun q => ?_) (fun q => ?_)
  · have h := h1 q
    exact cq_vret dX3_readWords_102 rfl h
  · have h := h2 (Int.not_lt.mp q)
    refine cq_g (pc' := 13) (ls' := [some (.ref r0), l1, some (.int (iI x2)), some (.int (iI x3)), some (.int (iI x4))]) (st' := [.int (iI x4)]) dX3_readWords_11 (fun _ _ => rfl) ?_
    refine cq_g (pc' := 14) (ls' := [some (.ref r0), l1, some (.int (iI x2)), some (.int (iI x3)), some (.int (iI x4))]) (st' := [.int (iI x2), .int (iI x4)]) dX3_readWords_13 (fun _ _ => rfl) ?_
    obtain ⟨h1, h2⟩ := h
    refine cq_icmp (t := 45) dX3_readWords_14 (by decide) (d_eq hx4 hx2) (fun q => ?_) (fun q => ?_)
    · have h := h1 q
      exact h
    · have h := h2 q
      refine cq_g (pc' := 18) (ls' := [some (.ref r0), l1, some (.int (iI x2)), some (.int (iI x3)), some (.int (iI x4))]) (st' := [.ref r0]) dX3_readWords_17 (fun _ _ => rfl) ?_
      obtain ⟨hK1, b2, hP, h⟩ := h
      refine cq_getP dX3_readWords_18 rfl (by decide) rfl (by unfold plK; decide) hK1 hP ?_
      refine cq_g (pc' := 23) (ls' := [some (.ref r0), l1, some (.int (iI x2)), some (.int (iI x3)), some (.int (iI x4))]) (st' := [.int (iI x4), .ref b2]) dX3_readWords_21 (fun _ _ => rfl) ?_
      obtain ⟨hK3, h⟩ := h
      refine cq_call (th := false) (rest := []) (ls2 := [some (.ref b2), some (.int (iI x4))]) (pc' := 26) dX3_readWords_23 (fun _ _ => ex_calV rfl (by decide)) rfl (Nat.le_of_ble_eq_true rfl) (Nat.le_of_ble_eq_true rfl) (Nat.le_of_ble_eq_true rfl) (cr_rcv rfl rfl (by decide) hK3) rfl rfl rfl (fun q => nomatch q) (t56 hK3 hx4 ?_)
      show CW g B O 23 26 [some (.ref r0), l1, some (.int (iI x2)), some (.int (iI x3)), some (.int (iI x4))] [.int (iI (sg (yT c b2) x4))] c Q
      refine cq_bi dX3_readWords_26 (by decide) ?_
      obtain ⟨h1, h2⟩ := h
      refine cq_icmp (t := 45) dX3_readWords_28 (by decide) (d_eq (crS hRc hK3) (by decide)) (fun q => ?_) (fun q => ?_)
      · have h := h1 q
        exact h
      · have h := h2 q
        refine cq_g (pc' := 32) (ls' := [some (.ref r0), l1, some (.int (iI x2)), some (.int (iI x3)), some (.int (iI x4))]) (st' := [.ref r0]) dX3_readWords_31 (fun _ _ => rfl) ?_
        obtain ⟨hK4, b5, hP, h⟩ := h
        refine cq_getP dX3_readWords_32 rfl (by decide) rfl (by unfold plK; decide) hK4 hP ?_
        refine cq_g (pc' := 37) (ls' := [some (.ref r0), l1, some (.int (iI x2)), some (.int (iI x3)), some (.int (iI x4))]) (st' := [.int (iI x4), .ref b5]) dX3_readWords_35 (fun _ _ => rfl) ?_
        obtain ⟨hK6, h⟩ := h
        refine cq_call (th := false) (rest := []) (ls2 := [some (.ref b5), some (.int (iI x4))]) (pc' := 40) dX3_readWords_37 (fun _ _ => ex_calV rfl (by decide)) rfl (Nat.le_of_ble_eq_true rfl) (Nat.le_of_ble_eq_true rfl) (Nat.le_of_ble_eq_true rfl) (cr_rcv rfl rfl (by decide) hK6) rfl rfl rfl (fun q => nomatch q) (t56 hK6 hx4 ?_)
        show CW g B O 23 40 [some (.ref r0), l1, some (.int (iI x2)), some (.int (iI x3)), some (.int (iI x4))] [.int (iI (sg (yT c b5) x4))] c Q
        refine cq_bi dX3_readWords_40 (by decide) ?_
        obtain ⟨h1, h2⟩ := h
        refine cq_icmp (t := 96) dX3_readWords_42 (by decide) (d_ne (crS hRc hK6) (by decide)) (fun q => ?_) (fun q => ?_)
        · have h := h1 q
          exact h
        · have h := h2 (Decidable.of_not_not q)
          exact h
theorem c23_45 {c : CS} {Q : Rs → CS → Prop} {r0 : Nat} {l1 : Option Value} {x2 : Int} {x3 : Int} {x4 : Int}
    (h : (x4 ≤ x3 → CW g B O 23 91 [some (.ref r0), l1, some (.int (iI x2)), some (.int (iI x3)), some (.int (iI x4))] [] c Q) ∧ (x3 < x4 → yK c r0 = 5 ∧ (40 ≤ yI c r0 3 → CW g B O 23 91 [some (.ref r0), l1, some (.int (iI x2)), some (.int (iI x3)), some (.int (iI x4))] [] c Q) ∧ (yI c r0 3 < 40 → yK c r0 = 5 ∧ ∃ b3, yP c r0 1 = some b3 ∧ (yK c r0 = 5 ∧ yK c b3 = 101 ∧ ((0 : Int) ≤ yI c r0 3 ∧ yI c r0 3 < yI c b3 (-1)) ∧ (∀ d7, d7 = wI c b3 (yI c r0 3) x3 → yK d7 r0 = 5 ∧ ∃ b9, yP d7 r0 2 = some b9 ∧ (yK d7 r0 = 5 ∧ yK d7 b9 = 101 ∧ ((0 : Int) ≤ yI d7 r0 3 ∧ yI d7 r0 3 < yI d7 b9 (-1)) ∧ (∀ d13, d13 = wI d7 b9 (yI d7 r0 3) x4 → yK d13 r0 = 5 ∧ ((-2147483648 : Int) ≤ (yI d13 r0 3) + 1 ∧ (yI d13 r0 3) + 1 ≤ 2147483647) ∧ yK d13 r0 = 5 ∧ (∀ d16, d16 = wI d13 r0 3 ((yI d13 r0 3) + 1) → CW g B O 23 91 [some (.ref r0), l1, some (.int (iI x2)), some (.int (iI x3)), some (.int (iI x4))] [] d16 Q)))))))) (hx2 : (-2147483648 : Int) ≤ x2 ∧ x2 ≤ 2147483647 := by omega) (hx3 : (-2147483648 : Int) ≤ x3 ∧ x3 ≤ 2147483647 := by omega) (hx4 : (-2147483648 : Int) ≤ x4 ∧ x4 ≤ 2147483647 := by omega) :
    CW g B O 23 45 [some (.ref r0), l1, some (.int (iI x2)), some (.int (iI x3)), some (.int (iI x4))] [] c Q := by
  refine cq_R (fun hRc => ?_)
  refine cq_g (pc' := 47) (ls' := [some (.ref r0), l1, some (.int (iI x2)), some (.int (iI x3)), some (.int (iI x4))]) (st' := [.int (iI x4)]) dX3_readWords_45 (fun _ _ => rfl) ?_
  refine cq_g (pc' := 48) (ls' := [some (.ref r0), l1, some (.int (iI x2)), some (.int (iI x3)), some (.int (iI x4))]) (st' := [.int (iI x3), .int (iI x4)]) dX3_readWords_47 (fun _ _ => rfl) ?_
  obtain ⟨h1, h2⟩ := h
  refine cq_icmp (t := 91) dX3_readWords_48 (by decide) (d_le hx4 hx3) (fun q => ?_) (fun q => ?_)
  · have h := h1 q
    exact h
  · have h := h2 (Int.not_le.mp q)
    refine cq_g (pc' := 52) (ls' := [some (.ref r0), l1, some (.int (iI x2)), some (.int (iI x3)), some (.int (iI x4))]) (st' := [.ref r0]) dX3_readWords_51 (fun _ _ => rfl) ?_
    obtain ⟨hK1, h⟩ := h
    refine cq_getI dX3_readWords_52 rfl (by decide) rfl (by unfold plK; decide) hK1 ?_
    refine cq_bi dX3_readWords_55 (by decide) ?_
    obtain ⟨h1, h2⟩ := h
    refine cq_icmp (t := 91) dX3_readWords_57 (by decide) (d_ge (hRc.1 _ _) (by decide)) (fun q => ?_) (fun q => ?_)
    · have h := h1 q
      exact h
    · have h := h2 (Int.not_le.mp q)
      refine cq_g (pc' := 61) (ls' := [some (.ref r0), l1, some (.int (iI x2)), some (.int (iI x3)), some (.int (iI x4))]) (st' := [.ref r0]) dX3_readWords_60 (fun _ _ => rfl) ?_
      obtain ⟨hK2, b3, hP, h⟩ := h
      refine cq_getP dX3_readWords_61 rfl (by decide) rfl (by unfold plK; decide) hK2 hP ?_
      refine cq_g (pc' := 65) (ls' := [some (.ref r0), l1, some (.int (iI x2)), some (.int (iI x3)), some (.int (iI x4))]) (st' := [.ref r0, .ref b3]) dX3_readWords_64 (fun _ _ => rfl) ?_
      obtain ⟨hK4, h⟩ := h
      refine cq_getI dX3_readWords_65 rfl (by decide) rfl (by unfold plK; decide) hK4 ?_
      refine cq_g (pc' := 69) (ls' := [some (.ref r0), l1, some (.int (iI x2)), some (.int (iI x3)), some (.int (iI x4))]) (st' := [.int (iI x3), .int (iI (yI c r0 3)), .ref b3]) dX3_readWords_68 (fun _ _ => rfl) ?_
      obtain ⟨hK6, hx5, h⟩ := h
      refine cq_iast dX3_readWords_69 hK6 hx5 hx3 ?_
      generalize ed7 : wI c b3 (yI c r0 3) x3 = d7
      replace h := h _ ed7.symm
      refine cq_R (fun hRd7 => ?_)
      refine cq_g (pc' := 71) (ls' := [some (.ref r0), l1, some (.int (iI x2)), some (.int (iI x3)), some (.int (iI x4))]) (st' := [.ref r0]) dX3_readWords_70 (fun _ _ => rfl) ?_
      obtain ⟨hK8, b9, hP, h⟩ := h
      refine cq_getP dX3_readWords_71 rfl (by decide) rfl (by unfold plK; decide) hK8 hP ?_
      refine cq_g (pc' := 75) (ls' := [some (.ref r0), l1, some (.int (iI x2)), some (.int (iI x3)), some (.int (iI x4))]) (st' := [.ref r0, .ref b9]) dX3_readWords_74 (fun _ _ => rfl) ?_
      obtain ⟨hK10, h⟩ := h
      refine cq_getI dX3_readWords_75 rfl (by decide) rfl (by unfold plK; decide) hK10 ?_
      refine cq_g (pc' := 80) (ls' := [some (.ref r0), l1, some (.int (iI x2)), some (.int (iI x3)), some (.int (iI x4))]) (st' := [.int (iI x4), .int (iI (yI d7 r0 3)), .ref b9]) dX3_readWords_78 (fun _ _ => rfl) ?_
      obtain ⟨hK12, hx11, h⟩ := h
      refine cq_iast dX3_readWords_80 hK12 hx11 hx4 ?_
      generalize ed13 : wI d7 b9 (yI d7 r0 3) x4 = d13
      replace h := h _ ed13.symm
      refine cq_R (fun hRd13 => ?_)
      refine cq_g (pc' := 82) (ls' := [some (.ref r0), l1, some (.int (iI x2)), some (.int (iI x3)), some (.int (iI x4))]) (st' := [.ref r0]) dX3_readWords_81 (fun _ _ => rfl) ?_
      refine cq_g (pc' := 83) (ls' := [some (.ref r0), l1, some (.int (iI x2)), some (.int (iI x3)), some (.int (iI x4))]) (st' := [.ref r0, .ref r0]) dX3_readWords_82 (fun _ _ => rfl) ?_
      obtain ⟨hK14, h⟩ := h
      refine cq_getI dX3_readWords_83 rfl (by decide) rfl (by unfold plK; decide) hK14 ?_
      refine cq_ic dX3_readWords_86 ?_
      obtain ⟨hr15, h⟩ := h
      refine cq_add dX3_readWords_87 ?_
      obtain ⟨hK17, h⟩ := h
      refine cq_putI dX3_readWords_88 rfl (by decide) (Or.inl rfl) rfl (by unfold plK; decide) (Or.inl rfl) hr15 hK17 ?_
      generalize ed16 : wI d13 r0 3 ((yI d13 r0 3) + 1) = d16
      replace h := h _ ed16.symm
      refine cq_R (fun hRd16 => ?_)
      exact h
theorem c23_91 {c : CS} {Q : Rs → CS → Prop} {r0 : Nat} {l1 : Option Value} {x2 : Int} {l3 : Option Value} {x4 : Int}
    (h : ((-2147483648 : Int) ≤ x4 + 1 ∧ x4 + 1 ≤ 2147483647) ∧ CW g B O 23 96 [some (.ref r0), l1, some (.int (iI x2)), some (.int (iI (x4 + 1))), some (.int (iI x4))] [] c Q) (hx2 : (-2147483648 : Int) ≤ x2 ∧ x2 ≤ 2147483647 := by omega) (hx4 : (-2147483648 : Int) ≤ x4 ∧ x4 ≤ 2147483647 := by omega) :
    CW g B O 23 91 [some (.ref r0), l1, some (.int (iI x2)), l3, some (.int (iI x4))] [] c Q := by
  refine cq_R (fun hRc => ?_)
  refine cq_g (pc' := 93) (ls' := [some (.ref r0), l1, some (.int (iI x2)), l3, some (.int (iI x4))]) (st' := [.int (iI x4)]) dX3_readWords_91 (fun _ _ => rfl) ?_
  refine cq_ic dX3_readWords_93 ?_
  obtain ⟨hr1, h⟩ := h
  refine cq_add dX3_readWords_94 ?_
  refine cq_g (pc' := 96) (ls' := [some (.ref r0), l1, some (.int (iI x2)), some (.int (iI (x4 + 1))), some (.int (iI x4))]) (st' := []) dX3_readWords_95 (fun _ _ => rfl) ?_
  exact h
theorem c23_96 {c : CS} {Q : Rs → CS → Prop} {r0 : Nat} {l1 : Option Value} {x2 : Int} {x3 : Int} {x4 : Int}
    (h : ((-2147483648 : Int) ≤ x4 + 1 ∧ x4 + 1 ≤ 2147483647) ∧ CW g B O 23 5 [some (.ref r0), l1, some (.int (iI x2)), some (.int (iI x3)), some (.int (iI (x4 + 1)))] [] c Q) (hx2 : (-2147483648 : Int) ≤ x2 ∧ x2 ≤ 2147483647 := by omega) (hx3 : (-2147483648 : Int) ≤ x3 ∧ x3 ≤ 2147483647 := by omega) (hx4 : (-2147483648 : Int) ≤ x4 ∧ x4 ≤ 2147483647 := by omega) :
    CW g B O 23 96 [some (.ref r0), l1, some (.int (iI x2)), some (.int (iI x3)), some (.int (iI x4))] [] c Q := by
  refine cq_R (fun hRc => ?_)
  obtain ⟨hr1, h⟩ := h
  refine cq_inc (ls' := [some (.ref r0), l1, some (.int (iI x2)), some (.int (iI x3)), some (.int (iI (x4 + 1)))]) dX3_readWords_96 rfl (Nat.le_of_ble_eq_true rfl) rfl ?_
  refine cq_goto (t := 5) dX3_readWords_99 (by decide) ?_
  exact h
theorem c24_0 {c : CS} {Q : Rs → CS → Prop} {r0 : Nat}
    (h : yK c r0 = 5 ∧ yK c r0 = 5 ∧ ∃ b3, yP c r0 4 = some b3 ∧ (yK c b3 = 1 ∧ (yI c r0 6 < ((yE c b3).length : Int) → CW g B O 24 29 [some (.ref r0)] [] c Q) ∧ (((yE c b3).length : Int) ≤ yI c r0 6 → yK c r0 = 5 ∧ ∃ b6, yP c r0 4 = some b6 ∧ (yU c + 13 ≤ B ∧ (∀ b7, yK c b7 = 0 → ∀ d8, d8 = wN c b7 4 0 13 → CW g B O 16 0 [some (.ref b7)] [] d8 (CK g B O 24 25 [some (.ref r0)] [.ref b7, .ref b6] Q false))))))  :
    CW g B O 24 0 [some (.ref r0)] [] c Q := by
  refine cq_R (fun hRc => ?_)
  refine cq_g (pc' := 1) (ls' := [some (.ref r0)]) (st' := [.ref r0]) dX3_nextPerson_0 (fun _ _ => rfl) ?_
  obtain ⟨hK1, h⟩ := h
  refine cq_getI dX3_nextPerson_1 rfl (by decide) rfl (by unfold plK; decide) hK1 ?_
  refine cq_g (pc' := 5) (ls' := [some (.ref r0)]) (st' := [.ref r0, .int (iI (yI c r0 6))]) dX3_nextPerson_4 (fun _ _ => rfl) ?_
  obtain ⟨hK2, b3, hP, h⟩ := h
  refine cq_getP dX3_nextPerson_5 rfl (by decide) rfl (by unfold plK; decide) hK2 hP ?_
  obtain ⟨hK4, h⟩ := h
  refine cq_call (th := false) (rest := [.int (iI (yI c r0 6))]) (ls2 := [some (.ref b3)]) (pc' := 11) dX3_nextPerson_8 (fun _ _ => ex_calV rfl (by decide)) rfl (Nat.le_of_ble_eq_true rfl) (Nat.le_of_ble_eq_true rfl) (Nat.le_of_ble_eq_true rfl) (cr_rcv rfl rfl (by decide) hK4) rfl rfl rfl (fun q => nomatch q) (t161 hK4 ?_)
  show CW g B O 24 11 [some (.ref r0)] [.int (iI ((yE c b3).length : Int)), .int (iI (yI c r0 6))] c Q
  obtain ⟨h1, h2⟩ := h
  refine cq_icmp (t := 29) dX3_nextPerson_11 (by decide) (d_lt (hRc.1 _ _) (crE hRc hK4)) (fun q => ?_) (fun q => ?_)
  · have h := h1 q
    exact h
  · have h := h2 (Int.not_lt.mp q)
    refine cq_g (pc' := 15) (ls' := [some (.ref r0)]) (st' := [.ref r0]) dX3_nextPerson_14 (fun _ _ => rfl) ?_
    obtain ⟨hK5, b6, hP, h⟩ := h
    refine cq_getP dX3_nextPerson_15 rfl (by decide) rfl (by unfold plK; decide) hK5 hP ?_
    obtain ⟨hU9, h⟩ := h
    refine cq_new (N := 5) dX3_nextPerson_18 rfl (by decide) rfl (by unfold plK; decide) hU9 (fun b7 hbb7 => ?_)
    replace h := h b7 hbb7
    show CW g B O 24 21 [some (.ref r0)] [.ref b7, .ref b6] (wN c b7 4 0 13) Q
    generalize ed8 : wN c b7 4 0 13 = d8
    replace h := h _ ed8.symm
    refine cq_R (fun hRd8 => ?_)
    refine cq_g (pc' := 22) (ls' := [some (.ref r0)]) (st' := [.ref b7, .ref b7, .ref b6]) dX3_nextPerson_21 (fun _ _ => rfl) ?_
    exact cq_call (th := false) (rest := [.ref b7, .ref b6]) (ls2 := [some (.ref b7)]) (pc' := 25) dX3_nextPerson_22 (fun _ _ => ex_calI rfl (by decide)) rfl (Nat.le_of_ble_eq_true rfl) (Nat.le_of_ble_eq_true rfl) (Nat.le_of_ble_eq_true rfl) (fun _ _ => rfl) rfl rfl rfl (fun q => nomatch q) h
theorem c24_25 {c : CS} {Q : Rs → CS → Prop} {r0 : Nat} {w0 : Nat} {w1 : Nat}
    (h : yK c w1 = 1 ∧ (1 ≤ yK c w0 ∧ yK c w0 ≤ 9) ∧ (yE c w1).length < 64 ∧ (∀ d4, d4 = wU (wE c w1 ((yE c w1) ++ [w0])) (yU c - 100) → CW g B O 24 29 [some (.ref r0)] [] d4 Q))  :
    CW g B O 24 25 [some (.ref r0)] [.ref w0, .ref w1] c Q := by
  refine cq_R (fun hRc => ?_)
  obtain ⟨hK1, hr2, hl3, h⟩ := h
  refine cq_call (th := false) (rest := []) (ls2 := [some (.ref w1), some (.ref w0)]) (pc' := 28) dX3_nextPerson_25 (fun _ _ => ex_calV rfl (by decide)) rfl (Nat.le_of_ble_eq_true rfl) (Nat.le_of_ble_eq_true rfl) (Nat.le_of_ble_eq_true rfl) (cr_rcv rfl rfl (by decide) hK1) rfl rfl rfl (fun q => nomatch q) (t166 hK1 hr2 hl3 ?_)
  show CW g B O 24 28 [some (.ref r0)] [.int (iI 1)] (wU (wE c w1 ((yE c w1) ++ [w0])) (yU c - 100)) Q
  generalize ed4 : wU (wE c w1 ((yE c w1) ++ [w0])) (yU c - 100) = d4
  replace h := h _ ed4.symm
  refine cq_R (fun hRd4 => ?_)
  refine cq_g (pc' := 29) (ls' := [some (.ref r0)]) (st' := []) dX3_nextPerson_28 (fun _ _ => rfl) ?_
  exact h
theorem c24_29 {c : CS} {Q : Rs → CS → Prop} {r0 : Nat}
    (h : yK c r0 = 5 ∧ ((-2147483648 : Int) ≤ (yI c r0 6) + 1 ∧ (yI c r0 6) + 1 ≤ 2147483647) ∧ yK c r0 = 5 ∧ (∀ d3, d3 = wI c r0 6 ((yI c r0 6) + 1) → yK d3 r0 = 5 ∧ ∃ b6, yP d3 r0 4 = some b6 ∧ (yK d3 r0 = 5 ∧ ((-2147483648 : Int) ≤ (yI d3 r0 6) - 1 ∧ (yI d3 r0 6) - 1 ≤ 2147483647) ∧ yK d3 b6 = 1 ∧ ((0 : Int) ≤ (yI d3 r0 6) - 1 ∧ (yI d3 r0 6) - 1 < (yE d3 b6).length) ∧ ∃ b11, (yE d3 b6).getD ((yI d3 r0 6) - 1).toNat 0 = b11 ∧ (yK d3 b11 = 4 ∧ Q (Sum.inl (some (.ref b11))) d3))))  :
    CW g B O 24 29 [some (.ref r0)] [] c Q := by
  refine cq_R (fun hRc => ?_)
  refine cq_g (pc' := 30) (ls' := [some (.ref r0)]) (st' := [.ref r0]) dX3_nextPerson_29 (fun _ _ => rfl) ?_
  refine cq_g (pc' := 31) (ls' := [some (.ref r0)]) (st' := [.ref r0, .ref r0]) dX3_nextPerson_30 (fun _ _ => rfl) ?_
  obtain ⟨hK1, h⟩ := h
  refine cq_getI dX3_nextPerson_31 rfl (by decide) rfl (by unfold plK; decide) hK1 ?_
  refine cq_ic dX3_nextPerson_34 ?_
  obtain ⟨hr2, h⟩ := h
  refine cq_add dX3_nextPerson_35 ?_
  obtain ⟨hK4, h⟩ := h
  refine cq_putI dX3_nextPerson_36 rfl (by decide) (Or.inl rfl) rfl (by unfold plK; decide) (Or.inl rfl) hr2 hK4 ?_
  generalize ed3 : wI c r0 6 ((yI c r0 6) + 1) = d3
  replace h := h _ ed3.symm
  refine cq_R (fun hRd3 => ?_)
  refine cq_g (pc' := 40) (ls' := [some (.ref r0)]) (st' := [.ref r0]) dX3_nextPerson_39 (fun _ _ => rfl) ?_
  obtain ⟨hK5, b6, hP, h⟩ := h
  refine cq_getP dX3_nextPerson_40 rfl (by decide) rfl (by unfold plK; decide) hK5 hP ?_
  refine cq_g (pc' := 44) (ls' := [some (.ref r0)]) (st' := [.ref r0, .ref b6]) dX3_nextPerson_43 (fun _ _ => rfl) ?_
  obtain ⟨hK7, h⟩ := h
  refine cq_getI dX3_nextPerson_44 rfl (by decide) rfl (by unfold plK; decide) hK7 ?_
  refine cq_ic dX3_nextPerson_47 ?_
  obtain ⟨hr8, h⟩ := h
  refine cq_sub dX3_nextPerson_48 ?_
  obtain ⟨hK9, hx10, b11, hb12, h⟩ := h
  refine cq_call (th := false) (rest := []) (ls2 := [some (.ref b6), some (.int (iI ((yI d3 r0 6) - 1)))]) (pc' := 52) dX3_nextPerson_49 (fun _ _ => ex_calV rfl (by decide)) rfl (Nat.le_of_ble_eq_true rfl) (Nat.le_of_ble_eq_true rfl) (Nat.le_of_ble_eq_true rfl) (cr_rcv rfl rfl (by decide) hK9) rfl rfl rfl (fun q => nomatch q) (t163 (x := (yI d3 r0 6) - 1) hK9 hx10 ?_)
  rw [hb12]
  show CW g B O 24 52 [some (.ref r0)] [.ref b11] d3 Q
  obtain ⟨hK13, h⟩ := h
  refine cq_chk dX3_nextPerson_52 rfl (by decide) hK13 ?_
  exact cq_aret dX3_nextPerson_55 rfl h
theorem c25_0 {c : CS} {Q : Rs → CS → Prop} {r0 : Nat} {r1 : Nat} {x2 : Int} {x3 : Int} {l4 : Option Value}
    (h : CW g B O 25 3 [some (.ref r0), some (.ref r1), some (.int (iI x2)), some (.int (iI x3)), some (.int (iI x2))] [] c Q) (hx2 : (-2147483648 : Int) ≤ x2 ∧ x2 ≤ 2147483647 := by omega) (hx3 : (-2147483648 : Int) ≤ x3 ∧ x3 ≤ 2147483647 := by omega) :
    CW g B O 25 0 [some (.ref r0), some (.ref r1), some (.int (iI x2)), some (.int (iI x3)), l4] [] c Q := by
  refine cq_R (fun hRc => ?_)
  refine cq_g (pc' := 1) (ls' := [some (.ref r0), some (.ref r1), some (.int (iI x2)), some (.int (iI x3)), l4]) (st' := [.int (iI x2)]) dX3_partAtComma_0 (fun _ _ => rfl) ?_
  refine cq_g (pc' := 3) (ls' := [some (.ref r0), some (.ref r1), some (.int (iI x2)), some (.int (iI x3)), some (.int (iI x2))]) (st' := []) dX3_partAtComma_1 (fun _ _ => rfl) ?_
  exact h
theorem c25_3 {c : CS} {Q : Rs → CS → Prop} {r0 : Nat} {r1 : Nat} {x2 : Int} {x3 : Int} {x4 : Int}
    (h : ((-2147483648 : Int) ≤ x3 - 1 ∧ x3 - 1 ≤ 2147483647) ∧ (x3 - 1 ≤ x4 → CW g B O 25 26 [some (.ref r0), some (.ref r1), some (.int (iI x2)), some (.int (iI x3)), some (.int (iI x4))] [] c Q) ∧ (x4 < x3 - 1 → yK c r0 = 5 ∧ CW g B O 27 0 [some (.ref r0), some (.int (iI x4))] [] c (CK g B O 25 17 [some (.ref r0), some (.ref r1), some (.int (iI x2)), some (.int (iI x3)), some (.int (iI x4))] [] Q false))) (hx2 : (-2147483648 : Int) ≤ x2 ∧ x2 ≤ 2147483647 := by omega) (hx3 : (-2147483648 : Int) ≤ x3 ∧ x3 ≤ 2147483647 := by omega) (hx4 : (-2147483648 : Int) ≤ x4 ∧ x4 ≤ 2147483647 := by omega) :
    CW g B O 25 3 [some (.ref r0), some (.ref r1), some (.int (iI x2)), some (.int (iI x3)), some (.int (iI x4))] [] c Q := by
  refine cq_R (fun hRc => ?_)
  refine cq_g (pc' := 5) (ls' := [some (.ref r0), some (.ref r1), some (.int (iI x2)), some (.int (iI x3)), some (.int (iI x4))]) (st' := [.int (iI x4)]) dX3_partAtComma_3 (fun _ _ => rfl) ?_
  refine cq_g (pc' := 6) (ls' := [some (.ref r0), some (.ref r1), some (.int (iI x2)), some (.int (iI x3)), some (.int (iI x4))]) (st' := [.int (iI x3), .int (iI x4)]) dX3_partAtComma_5 (fun _ _ => rfl) ?_
  refine cq_ic dX3_partAtComma_6 ?_
  obtain ⟨hr1, h⟩ := h
  refine cq_sub dX3_partAtComma_7 ?_
  obtain ⟨h1, h2⟩ := h
  refine cq_icmp (t := 26) dX3_partAtComma_8 (by decide) (d_ge hx4 hr1) (fun q => ?_) (fun q => ?_)
  · have h := h1 q
    exact h
  · have h := h2 (Int.not_le.mp q)
    refine cq_g (pc' := 12) (ls' := [some (.ref r0), some (.ref r1), some (.int (iI x2)), some (.int (iI x3)), some (.int (iI x4))]) (st' := [.ref r0]) dX3_partAtComma_11 (fun _ _ => rfl) ?_
    refine cq_g (pc' := 14) (ls' := [some (.ref r0), some (.ref r1), some (.int (iI x2)), some (.int (iI x3)), some (.int (iI x4))]) (st' := [.int (iI x4), .ref r0]) dX3_partAtComma_12 (fun _ _ => rfl) ?_
    obtain ⟨hK2, h⟩ := h
    exact cq_call (th := false) (rest := []) (ls2 := [some (.ref r0), some (.int (iI x4))]) (pc' := 17) dX3_partAtComma_14 (fun _ _ => ex_calV rfl (by decide)) rfl (Nat.le_of_ble_eq_true rfl) (Nat.le_of_ble_eq_true rfl) (Nat.le_of_ble_eq_true rfl) (cr_rcv rfl rfl (by decide) hK2) rfl rfl rfl (fun q => nomatch q) h
theorem c25_17 {c : CS} {Q : Rs → CS → Prop} {r0 : Nat} {r1 : Nat} {x2 : Int} {x3 : Int} {x4 : Int} {u0 : Int}
    (h : (u0 = 0 → CW g B O 25 26 [some (.ref r0), some (.ref r1), some (.int (iI x2)), some (.int (iI x3)), some (.int (iI x4))] [] c Q) ∧ (¬ u0 = 0 → ((-2147483648 : Int) ≤ x4 + 1 ∧ x4 + 1 ≤ 2147483647) ∧ CW g B O 25 3 [some (.ref r0), some (.ref r1), some (.int (iI x2)), some (.int (iI x3)), some (.int (iI (x4 + 1)))] [] c Q)) (hx2 : (-2147483648 : Int) ≤ x2 ∧ x2 ≤ 2147483647 := by omega) (hx3 : (-2147483648 : Int) ≤ x3 ∧ x3 ≤ 2147483647 := by omega) (hx4 : (-2147483648 : Int) ≤ x4 ∧ x4 ≤ 2147483647 := by omega) (hu0 : (-2147483648 : Int) ≤ u0 ∧ u0 ≤ 2147483647 := by omega) :
    CW g B O 25 17 [some (.ref r0), some (.ref r1), some (.int (iI x2)), some (.int (iI x3)), some (.int (iI x4))] [.int (iI u0)] c Q := by
  refine cq_R (fun hRc => ?_)
  obtain ⟨h1, h2⟩ := h
  refine cq_if (t := 26) dX3_partAtComma_17 (by decide) (d_eq hu0 (by decide)) (fun q => ?_) (fun q => ?_)
  · have h := h1 q
    exact h
  · have h := h2 q
    obtain ⟨hr1, h⟩ := h
    refine cq_inc (ls' := [some (.ref r0), some (.ref r1), some (.int (iI x2)), some (.int (iI x3)), some (.int (iI (x4 + 1)))]) dX3_partAtComma_20 rfl (Nat.le_of_ble_eq_true rfl) rfl ?_
    refine cq_goto (t := 3) dX3_partAtComma_23 (by decide) ?_
    exact h
theorem c25_26 {c : CS} {Q : Rs → CS → Prop} {r0 : Nat} {r1 : Nat} {x2 : Int} {x3 : Int} {x4 : Int}
    (h : yK c r1 = 4 ∧ (∀ d1, d1 = wI c r1 2 x2 → yK d1 r1 = 4 ∧ (∀ d3, d3 = wI d1 r1 3 x4 → yK d3 r1 = 4 ∧ (∀ d5, d5 = wI d3 r1 4 x3 → yK d5 r1 = 4 ∧ (∀ d7, d7 = wI d5 r1 0 x3 → yK d7 r0 = 5 ∧ yK d7 r1 = 4 ∧ (∀ d10, d10 = wI d7 r1 1 (yI d7 r0 3) → Q (Sum.inl none) d10)))))) (hx2 : (-2147483648 : Int) ≤ x2 ∧ x2 ≤ 2147483647 := by omega) (hx3 : (-2147483648 : Int) ≤ x3 ∧ x3 ≤ 2147483647 := by omega) (hx4 : (-2147483648 : Int) ≤ x4 ∧ x4 ≤ 2147483647 := by omega) :
    CW g B O 25 26 [some (.ref r0), some (.ref r1), some (.int (iI x2)), some (.int (iI x3)), some (.int (iI x4))] [] c Q := by
  refine cq_R (fun hRc => ?_)
  refine cq_g (pc' := 27) (ls' := [some (.ref r0), some (.ref r1), some (.int (iI x2)), some (.int (iI x3)), some (.int (iI x4))]) (st' := [.ref r1]) dX3_partAtComma_26 (fun _ _ => rfl) ?_
  refine cq_g (pc' := 28) (ls' := [some (.ref r0), some (.ref r1), some (.int (iI x2)), some (.int (iI x3)), some (.int (iI x4))]) (st' := [.int (iI x2), .ref r1]) dX3_partAtComma_27 (fun _ _ => rfl) ?_
  obtain ⟨hK2, h⟩ := h
  refine cq_putI dX3_partAtComma_28 rfl (by decide) (Or.inl rfl) rfl (by unfold plK; decide) (Or.inl rfl) hx2 hK2 ?_
  generalize ed1 : wI c r1 2 x2 = d1
  replace h := h _ ed1.symm
  refine cq_R (fun hRd1 => ?_)
  refine cq_g (pc' := 32) (ls' := [some (.ref r0), some (.ref r1), some (.int (iI x2)), some (.int (iI x3)), some (.int (iI x4))]) (st' := [.ref r1]) dX3_partAtComma_31 (fun _ _ => rfl) ?_
  refine cq_g (pc' := 34) (ls' := [some (.ref r0), some (.ref r1), some (.int (iI x2)), some (.int (iI x3)), some (.int (iI x4))]) (st' := [.int (iI x4), .ref r1]) dX3_partAtComma_32 (fun _ _ => rfl) ?_
  obtain ⟨hK4, h⟩ := h
  refine cq_putI dX3_partAtComma_34 rfl (by decide) (Or.inl rfl) rfl (by unfold plK; decide) (Or.inl rfl) hx4 hK4 ?_
  generalize ed3 : wI d1 r1 3 x4 = d3
  replace h := h _ ed3.symm
  refine cq_R (fun hRd3 => ?_)
  refine cq_g (pc' := 38) (ls' := [some (.ref r0), some (.ref r1), some (.int (iI x2)), some (.int (iI x3)), some (.int (iI x4))]) (st' := [.ref r1]) dX3_partAtComma_37 (fun _ _ => rfl) ?_
  refine cq_g (pc' := 39) (ls' := [some (.ref r0), some (.ref r1), some (.int (iI x2)), some (.int (iI x3)), some (.int (iI x4))]) (st' := [.int (iI x3), .ref r1]) dX3_partAtComma_38 (fun _ _ => rfl) ?_
  obtain ⟨hK6, h⟩ := h
  refine cq_putI dX3_partAtComma_39 rfl (by decide) (Or.inl rfl) rfl (by unfold plK; decide) (Or.inl rfl) hx3 hK6 ?_
  generalize ed5 : wI d3 r1 4 x3 = d5
  replace h := h _ ed5.symm
  refine cq_R (fun hRd5 => ?_)
  refine cq_g (pc' := 43) (ls' := [some (.ref r0), some (.ref r1), some (.int (iI x2)), some (.int (iI x3)), some (.int (iI x4))]) (st' := [.ref r1]) dX3_partAtComma_42 (fun _ _ => rfl) ?_
  refine cq_g (pc' := 44) (ls' := [some (.ref r0), some (.ref r1), some (.int (iI x2)), some (.int (iI x3)), some (.int (iI x4))]) (st' := [.int (iI x3), .ref r1]) dX3_partAtComma_43 (fun _ _ => rfl) ?_
  obtain ⟨hK8, h⟩ := h
  refine cq_putI dX3_partAtComma_44 rfl (by decide) (Or.inl rfl) rfl (by unfold plK; decide) (Or.inl rfl) hx3 hK8 ?_
  generalize ed7 : wI d5 r1 0 x3 = d7
  replace h := h _ ed7.symm
  refine cq_R (fun hRd7 => ?_)
  refine cq_g (pc' := 48) (ls' := [some (.ref r0), some (.ref r1), some (.int (iI x2)), some (.int (iI x3)), some (.int (iI x4))]) (st' := [.ref r1]) dX3_partAtComma_47 (fun _ _ => rfl) ?_
  refine cq_g (pc' := 49) (ls' := [some (.ref r0), some (.ref r1), some (.int (iI x2)), some (.int (iI x3)), some (.int (iI x4))]) (st' := [.ref r0, .ref r1]) dX3_partAtComma_48 (fun _ _ => rfl) ?_
  obtain ⟨hK9, h⟩ := h
  refine cq_getI dX3_partAtComma_49 rfl (by decide) rfl (by unfold plK; decide) hK9 ?_
  obtain ⟨hK11, h⟩ := h
  refine cq_putI dX3_partAtComma_52 rfl (by decide) (Or.inl rfl) rfl (by unfold plK; decide) (Or.inl rfl) (hRd7.1 _ _) hK11 ?_
  generalize ed10 : wI d7 r1 1 (yI d7 r0 3) = d10
  replace h := h _ ed10.symm
  refine cq_R (fun hRd10 => ?_)
  exact cq_vret dX3_partAtComma_55 rfl h
theorem c26_0 {c : CS} {Q : Rs → CS → Prop} {r0 : Nat} {r1 : Nat} {x2 : Int} {l3 : Option Value} {l4 : Option Value} {l5 : Option Value}
    (h : yK c r0 = 5 ∧ ((-2147483648 : Int) ≤ (yI c r0 3) - 1 ∧ (yI c r0 3) - 1 ≤ 2147483647) ∧ CW g B O 26 10 [some (.ref r0), some (.ref r1), some (.int (iI x2)), some (.int (iI ((yI c r0 3) - 1))), some (.int (iI x2)), l5] [] c Q) (hx2 : (-2147483648 : Int) ≤ x2 ∧ x2 ≤ 2147483647 := by omega) :
    CW g B O 26 0 [some (.ref r0), some (.ref r1), some (.int (iI x2)), l3, l4, l5] [] c Q := by
  refine cq_R (fun hRc => ?_)
  refine cq_g (pc' := 1) (ls' := [some (.ref r0), some (.ref r1), some (.int (iI x2)), l3, l4, l5]) (st' := [.ref r0]) dX3_partAtParticles_0 (fun _ _ => rfl) ?_
  obtain ⟨hK1, h⟩ := h
  refine cq_getI dX3_partAtParticles_1 rfl (by decide) rfl (by unfold plK; decide) hK1 ?_
  refine cq_ic dX3_partAtParticles_4 ?_
  obtain ⟨hr2, h⟩ := h
  refine cq_sub dX3_partAtParticles_5 ?_
  refine cq_g (pc' := 7) (ls' := [some (.ref r0), some (.ref r1), some (.int (iI x2)), some (.int (iI ((yI c r0 3) - 1))), l4, l5]) (st' := []) dX3_partAtParticles_6 (fun _ _ => rfl) ?_
  refine cq_g (pc' := 8) (ls' := [some (.ref r0), some (.ref r1), some (.int (iI x2)), some (.int (iI ((yI c r0 3) - 1))), l4, l5]) (st' := [.int (iI x2)]) dX3_partAtParticles_7 (fun _ _ => rfl) ?_
  refine cq_g (pc' := 10) (ls' := [some (.ref r0), some (.ref r1), some (.int (iI x2)), some (.int (iI ((yI c r0 3) - 1))), some (.int (iI x2)), l5]) (st' := []) dX3_partAtParticles_8 (fun _ _ => rfl) ?_
  exact h
theorem c26_10 {c : CS} {Q : Rs → CS → Prop} {r0 : Nat} {r1 : Nat} {x2 : Int} {x3 : Int} {x4 : Int} {l5 : Option Value}
    (h : (x3 ≤ x4 → CW g B O 26 31 [some (.ref r0), some (.ref r1), some (.int (iI x2)), some (.int (iI x3)), some (.int (iI x4)), l5] [] c Q) ∧ (x4 < x3 → yK c r0 = 5 ∧ CW g B O 27 0 [some (.ref r0), some (.int (iI x4))] [] c (CK g B O 26 22 [some (.ref r0), some (.ref r1), some (.int (iI x2)), some (.int (iI x3)), some (.int (iI x4)), l5] [] Q false))) (hx2 : (-2147483648 : Int) ≤ x2 ∧ x2 ≤ 2147483647 := by omega) (hx3 : (-2147483648 : Int) ≤ x3 ∧ x3 ≤ 2147483647 := by omega) (hx4 : (-2147483648 : Int) ≤ x4 ∧ x4 ≤ 2147483647 := by omega) :
    CW g B O 26 10 [some (.ref r0), some (.ref r1), some (.int (iI x2)), some (.int (iI x3)), some (.int (iI x4)), l5] [] c Q := by
  refine cq_R (fun hRc => ?_)
  refine cq_g (pc' := 12) (ls' := [some (.ref r0), some (.ref r1), some (.int (iI x2)), some (.int (iI x3)), some (.int (iI x4)), l5]) (st' := [.int (iI x4)]) dX3_partAtParticles_10 (fun _ _ => rfl) ?_
  refine cq_g (pc' := 13) (ls' := [some (.ref r0), some (.ref r1), some (.int (iI x2)), some (.int (iI x3)), some (.int (iI x4)), l5]) (st' := [.int (iI x3), .int (iI x4)]) dX3_partAtParticles_12 (fun _ _ => rfl) ?_
  obtain ⟨h1, h2⟩ := h
  refine cq_icmp (t := 31) dX3_partAtParticles_13 (by decide) (d_ge hx4 hx3) (fun q => ?_) (fun q => ?_)
  · have h := h1 q
    exact h
  · have h := h2 (Int.not_le.mp q)
    refine cq_g (pc' := 17) (ls' := [some (.ref r0), some (.ref r1), some (.int (iI x2)), some (.int (iI x3)), some (.int (iI x4)), l5]) (st' := [.ref r0]) dX3_partAtParticles_16 (fun _ _ => rfl) ?_
    refine cq_g (pc' := 19) (ls' := [some (.ref r0), some (.ref r1), some (.int (iI x2)), some (.int (iI x3)), some (.int (iI x4)), l5]) (st' := [.int (iI x4), .ref r0]) dX3_partAtParticles_17 (fun _ _ => rfl) ?_
    obtain ⟨hK1, h⟩ := h
    exact cq_call (th := false) (rest := []) (ls2 := [some (.ref r0), some (.int (iI x4))]) (pc' := 22) dX3_partAtParticles_19 (fun _ _ => ex_calV rfl (by decide)) rfl (Nat.le_of_ble_eq_true rfl) (Nat.le_of_ble_eq_true rfl) (Nat.le_of_ble_eq_true rfl) (cr_rcv rfl rfl (by decide) hK1) rfl rfl rfl (fun q => nomatch q) h
theorem c26_22 {c : CS} {Q : Rs → CS → Prop} {r0 : Nat} {r1 : Nat} {x2 : Int} {x3 : Int} {x4 : Int} {l5 : Option Value} {u0 : Int}
    (h : (¬ u0 = 0 → CW g B O 26 31 [some (.ref r0), some (.ref r1), some (.int (iI x2)), some (.int (iI x3)), some (.int (iI x4)), l5] [] c Q) ∧ (u0 = 0 → ((-2147483648 : Int) ≤ x4 + 1 ∧ x4 + 1 ≤ 2147483647) ∧ CW g B O 26 10 [some (.ref r0), some (.ref r1), some (.int (iI x2)), some (.int (iI x3)), some (.int (iI (x4 + 1))), l5] [] c Q)) (hx2 : (-2147483648 : Int) ≤ x2 ∧ x2 ≤ 2147483647 := by omega) (hx3 : (-2147483648 : Int) ≤ x3 ∧ x3 ≤ 2147483647 := by omega) (hx4 : (-2147483648 : Int) ≤ x4 ∧ x4 ≤ 2147483647 := by omega) (hu0 : (-2147483648 : Int) ≤ u0 ∧ u0 ≤ 2147483647 := by omega) :
    CW g B O 26 22 [some (.ref r0), some (.ref r1), some (.int (iI x2)), some (.int (iI x3)), some (.int (iI x4)), l5] [.int (iI u0)] c Q := by
  refine cq_R (fun hRc => ?_)
  obtain ⟨h1, h2⟩ := h
  refine cq_if (t := 31) dX3_partAtParticles_22 (by decide) (d_ne hu0 (by decide)) (fun q => ?_) (fun q => ?_)
  · have h := h1 q
    exact h
  · have h := h2 (Decidable.of_not_not q)
    obtain ⟨hr1, h⟩ := h
    refine cq_inc (ls' := [some (.ref r0), some (.ref r1), some (.int (iI x2)), some (.int (iI x3)), some (.int (iI (x4 + 1))), l5]) dX3_partAtParticles_25 rfl (Nat.le_of_ble_eq_true rfl) rfl ?_
    refine cq_goto (t := 10) dX3_partAtParticles_28 (by decide) ?_
    exact h
theorem c26_31 {c : CS} {Q : Rs → CS → Prop} {r0 : Nat} {r1 : Nat} {x2 : Int} {x3 : Int} {x4 : Int} {l5 : Option Value}
    (h : CW g B O 26 34 [some (.ref r0), some (.ref r1), some (.int (iI x2)), some (.int (iI x3)), some (.int (iI x4)), some (.int (iI x3))] [] c Q) (hx2 : (-2147483648 : Int) ≤ x2 ∧ x2 ≤ 2147483647 := by omega) (hx3 : (-2147483648 : Int) ≤ x3 ∧ x3 ≤ 2147483647 := by omega) (hx4 : (-2147483648 : Int) ≤ x4 ∧ x4 ≤ 2147483647 := by omega) :
    CW g B O 26 31 [some (.ref r0), some (.ref r1), some (.int (iI x2)), some (.int (iI x3)), some (.int (iI x4)), l5] [] c Q := by
  refine cq_R (fun hRc => ?_)
  refine cq_g (pc' := 32) (ls' := [some (.ref r0), some (.ref r1), some (.int (iI x2)), some (.int (iI x3)), some (.int (iI x4)), l5]) (st' := [.int (iI x3)]) dX3_partAtParticles_31 (fun _ _ => rfl) ?_
  refine cq_g (pc' := 34) (ls' := [some (.ref r0), some (.ref r1), some (.int (iI x2)), some (.int (iI x3)), some (.int (iI x4)), some (.int (iI x3))]) (st' := []) dX3_partAtParticles_32 (fun _ _ => rfl) ?_
  exact h
theorem c26_34 {c : CS} {Q : Rs → CS → Prop} {r0 : Nat} {r1 : Nat} {x2 : Int} {l3 : Option Value} {x4 : Int} {x5 : Int}
    (h : (x5 ≤ x4 → CW g B O 26 58 [some (.ref r0), some (.ref r1), some (.int (iI x2)), l3, some (.int (iI x4)), some (.int (iI x5))] [] c Q) ∧ (x4 < x5 → ((-2147483648 : Int) ≤ x5 - 1 ∧ x5 - 1 ≤ 2147483647) ∧ yK c r0 = 5 ∧ CW g B O 27 0 [some (.ref r0), some (.int (iI (x5 - 1)))] [] c (CK g B O 26 49 [some (.ref r0), some (.ref r1), some (.int (iI x2)), l3, some (.int (iI x4)), some (.int (iI x5))] [] Q false))) (hx2 : (-2147483648 : Int) ≤ x2 ∧ x2 ≤ 2147483647 := by omega) (hx4 : (-2147483648 : Int) ≤ x4 ∧ x4 ≤ 2147483647 := by omega) (hx5 : (-2147483648 : Int) ≤ x5 ∧ x5 ≤ 2147483647 := by omega) :
    CW g B O 26 34 [some (.ref r0), some (.ref r1), some (.int (iI x2)), l3, some (.int (iI x4)), some (.int (iI x5))] [] c Q := by
  refine cq_R (fun hRc => ?_)
  refine cq_g (pc' := 36) (ls' := [some (.ref r0), some (.ref r1), some (.int (iI x2)), l3, some (.int (iI x4)), some (.int (iI x5))]) (st' := [.int (iI x5)]) dX3_partAtParticles_34 (fun _ _ => rfl) ?_
  refine cq_g (pc' := 38) (ls' := [some (.ref r0), some (.ref r1), some (.int (iI x2)), l3, some (.int (iI x4)), some (.int (iI x5))]) (st' := [.int (iI x4), .int (iI x5)]) dX3_partAtParticles_36 (fun _ _ => rfl) ?_
  obtain ⟨h1, h2⟩ := h
  refine cq_icmp (t := 58) dX3_partAtParticles_38 (by decide) (d_le hx5 hx4) (fun q => ?_) (fun q => ?_)
  · have h := h1 q
    exact h
  · have h := h2 (Int.not_le.mp q)
    refine cq_g (pc' := 42) (ls' := [some (.ref r0), some (.ref r1), some (.int (iI x2)), l3, some (.int (iI x4)), some (.int (iI x5))]) (st' := [.ref r0]) dX3_partAtParticles_41 (fun _ _ => rfl) ?_
    refine cq_g (pc' := 44) (ls' := [some (.ref r0), some (.ref r1), some (.int (iI x2)), l3, some (.int (iI x4)), some (.int (iI x5))]) (st' := [.int (iI x5), .ref r0]) dX3_partAtParticles_42 (fun _ _ => rfl) ?_
    refine cq_ic dX3_partAtParticles_44 ?_
    obtain ⟨hr1, h⟩ := h
    refine cq_sub dX3_partAtParticles_45 ?_
    obtain ⟨hK2, h⟩ := h
    exact cq_call (th := false) (rest := []) (ls2 := [some (.ref r0), some (.int (iI (x5 - 1)))]) (pc' := 49) dX3_partAtParticles_46 (fun _ _ => ex_calV rfl (by decide)) rfl (Nat.le_of_ble_eq_true rfl) (Nat.le_of_ble_eq_true rfl) (Nat.le_of_ble_eq_true rfl) (cr_rcv rfl rfl (by decide) hK2) rfl rfl rfl (fun q => nomatch q) h
theorem c26_49 {c : CS} {Q : Rs → CS → Prop} {r0 : Nat} {r1 : Nat} {x2 : Int} {l3 : Option Value} {x4 : Int} {x5 : Int} {u0 : Int}
    (h : (¬ u0 = 0 → CW g B O 26 58 [some (.ref r0), some (.ref r1), some (.int (iI x2)), l3, some (.int (iI x4)), some (.int (iI x5))] [] c Q) ∧ (u0 = 0 → ((-2147483648 : Int) ≤ x5 + (-1) ∧ x5 + (-1) ≤ 2147483647) ∧ CW g B O 26 34 [some (.ref r0), some (.ref r1), some (.int (iI x2)), l3, some (.int (iI x4)), some (.int (iI (x5 + (-1))))] [] c Q)) (hx2 : (-2147483648 : Int) ≤ x2 ∧ x2 ≤ 2147483647 := by omega) (hx4 : (-2147483648 : Int) ≤ x4 ∧ x4 ≤ 2147483647 := by omega) (hx5 : (-2147483648 : Int) ≤ x5 ∧ x5 ≤ 2147483647 := by omega) (hu0 : (-2147483648 : Int) ≤ u0 ∧ u0 ≤ 2147483647 := by omega) :
    CW g B O 26 49 [some (.ref r0), some (.ref r1), some (.int (iI x2)), l3, some (.int (iI x4)), some (.int (iI x5))] [.int (iI u0)] c Q := by
  refine cq_R (fun hRc => ?_)
  obtain ⟨h1, h2⟩ := h
  refine cq_if (t := 58) dX3_partAtParticles_49 (by decide) (d_ne hu0 (by decide)) (fun q => ?_) (fun q => ?_)
  · have h := h1 q
    exact h
  · have h := h2 (Decidable.of_not_not q)
    obtain ⟨hr1, h⟩ := h
    refine cq_inc (ls' := [some (.ref r0), some (.ref r1), some (.int (iI x2)), l3, some (.int (iI x4)), some (.int (iI (x5 + (-1))))]) dX3_partAtParticles_52 rfl (Nat.le_of_ble_eq_true rfl) rfl ?_
    refine cq_goto (t := 34) dX3_partAtParticles_55 (by decide) ?_
    exact h
theorem c26_58 {c : CS} {Q : Rs → CS → Prop} {r0 : Nat} {r1 : Nat} {x2 : Int} {l3 : Option Value} {x4 : Int} {x5 : Int}
    (h : yK c r1 = 4 ∧ (∀ d1, d1 = wI c r1 0 x2 → yK d1 r1 = 4 ∧ (∀ d3, d3 = wI d1 r1 1 x4 → yK d3 r1 = 4 ∧ (∀ d5, d5 = wI d3 r1 2 x4 → yK d5 r1 = 4 ∧ (∀ d7, d7 = wI d5 r1 3 x5 → yK d7 r0 = 5 ∧ yK d7 r1 = 4 ∧ (∀ d10, d10 = wI d7 r1 4 (yI d7 r0 3) → Q (Sum.inl none) d10)))))) (hx2 : (-2147483648 : Int) ≤ x2 ∧ x2 ≤ 2147483647 := by omega) (hx4 : (-2147483648 : Int) ≤ x4 ∧ x4 ≤ 2147483647 := by omega) (hx5 : (-2147483648 : Int) ≤ x5 ∧ x5 ≤ 2147483647 := by omega) :
    CW g B O 26 58 [some (.ref r0), some (.ref r1), some (.int (iI x2)), l3, some (.int (iI x4)), some (.int (iI x5))] [] c Q := by
  refine cq_R (fun hRc => ?_)
  refine cq_g (pc' := 59) (ls' := [some (.ref r0), some (.ref r1), some (.int (iI x2)), l3, some (.int (iI x4)), some (.int (iI x5))]) (st' := [.ref r1]) dX3_partAtParticles_58 (fun _ _ => rfl) ?_
  refine cq_g (pc' := 60) (ls' := [some (.ref r0), some (.ref r1), some (.int (iI x2)), l3, some (.int (iI x4)), some (.int (iI x5))]) (st' := [.int (iI x2), .ref r1]) dX3_partAtParticles_59 (fun _ _ => rfl) ?_
  obtain ⟨hK2, h⟩ := h
  refine cq_putI dX3_partAtParticles_60 rfl (by decide) (Or.inl rfl) rfl (by unfold plK; decide) (Or.inl rfl) hx2 hK2 ?_
  generalize ed1 : wI c r1 0 x2 = d1
  replace h := h _ ed1.symm
  refine cq_R (fun hRd1 => ?_)
  refine cq_g (pc' := 64) (ls' := [some (.ref r0), some (.ref r1), some (.int (iI x2)), l3, some (.int (iI x4)), some (.int (iI x5))]) (st' := [.ref r1]) dX3_partAtParticles_63 (fun _ _ => rfl) ?_
  refine cq_g (pc' := 66) (ls' := [some (.ref r0), some (.ref r1), some (.int (iI x2)), l3, some (.int (iI x4)), some (.int (iI x5))]) (st' := [.int (iI x4), .ref r1]) dX3_partAtParticles_64 (fun _ _ => rfl) ?_
  obtain ⟨hK4, h⟩ := h
  refine cq_putI dX3_partAtParticles_66 rfl (by decide) (Or.inl rfl) rfl (by unfold plK; decide) (Or.inl rfl) hx4 hK4 ?_
  generalize ed3 : wI d1 r1 1 x4 = d3
  replace h := h _ ed3.symm
  refine cq_R (fun hRd3 => ?_)
  refine cq_g (pc' := 70) (ls' := [some (.ref r0), some (.ref r1), some (.int (iI x2)), l3, some (.int (iI x4)), some (.int (iI x5))]) (st' := [.ref r1]) dX3_partAtParticles_69 (fun _ _ => rfl) ?_
  refine cq_g (pc' := 72) (ls' := [some (.ref r0), some (.ref r1), some (.int (iI x2)), l3, some (.int (iI x4)), some (.int (iI x5))]) (st' := [.int (iI x4), .ref r1]) dX3_partAtParticles_70 (fun _ _ => rfl) ?_
  obtain ⟨hK6, h⟩ := h
  refine cq_putI dX3_partAtParticles_72 rfl (by decide) (Or.inl rfl) rfl (by unfold plK; decide) (Or.inl rfl) hx4 hK6 ?_
  generalize ed5 : wI d3 r1 2 x4 = d5
  replace h := h _ ed5.symm
  refine cq_R (fun hRd5 => ?_)
  refine cq_g (pc' := 76) (ls' := [some (.ref r0), some (.ref r1), some (.int (iI x2)), l3, some (.int (iI x4)), some (.int (iI x5))]) (st' := [.ref r1]) dX3_partAtParticles_75 (fun _ _ => rfl) ?_
  refine cq_g (pc' := 78) (ls' := [some (.ref r0), some (.ref r1), some (.int (iI x2)), l3, some (.int (iI x4)), some (.int (iI x5))]) (st' := [.int (iI x5), .ref r1]) dX3_partAtParticles_76 (fun _ _ => rfl) ?_
  obtain ⟨hK8, h⟩ := h
  refine cq_putI dX3_partAtParticles_78 rfl (by decide) (Or.inl rfl) rfl (by unfold plK; decide) (Or.inl rfl) hx5 hK8 ?_
  generalize ed7 : wI d5 r1 3 x5 = d7
  replace h := h _ ed7.symm
  refine cq_R (fun hRd7 => ?_)
  refine cq_g (pc' := 82) (ls' := [some (.ref r0), some (.ref r1), some (.int (iI x2)), l3, some (.int (iI x4)), some (.int (iI x5))]) (st' := [.ref r1]) dX3_partAtParticles_81 (fun _ _ => rfl) ?_
  refine cq_g (pc' := 83) (ls' := [some (.ref r0), some (.ref r1), some (.int (iI x2)), l3, some (.int (iI x4)), some (.int (iI x5))]) (st' := [.ref r0, .ref r1]) dX3_partAtParticles_82 (fun _ _ => rfl) ?_
  obtain ⟨hK9, h⟩ := h
  refine cq_getI dX3_partAtParticles_83 rfl (by decide) rfl (by unfold plK; decide) hK9 ?_
  obtain ⟨hK11, h⟩ := h
  refine cq_putI dX3_partAtParticles_86 rfl (by decide) (Or.inl rfl) rfl (by unfold plK; decide) (Or.inl rfl) (hRd7.1 _ _) hK11 ?_
  generalize ed10 : wI d7 r1 4 (yI d7 r0 3) = d10
  replace h := h _ ed10.symm
  refine cq_R (fun hRd10 => ?_)
  exact cq_vret dX3_partAtParticles_89 rfl h
theorem c27_0 {c : CS} {Q : Rs → CS → Prop} {r0 : Nat} {x1 : Int}
    (h : yK c r0 = 5 ∧ ∃ b2, yP c r0 0 = some b2 ∧ (yK c r0 = 5 ∧ CW g B O 28 0 [some (.ref r0), some (.int (iI x1))] [] c (CK g B O 27 9 [some (.ref r0), some (.int (iI x1))] [.ref b2] Q false))) (hx1 : (-2147483648 : Int) ≤ x1 ∧ x1 ≤ 2147483647 := by omega) :
    CW g B O 27 0 [some (.ref r0), some (.int (iI x1))] [] c Q := by
  refine cq_R (fun hRc => ?_)
  refine cq_g (pc' := 1) (ls' := [some (.ref r0), some (.int (iI x1))]) (st' := [.ref r0]) dX3_beginsSmall_0 (fun _ _ => rfl) ?_
  obtain ⟨hK1, b2, hP, h⟩ := h
  refine cq_getP dX3_beginsSmall_1 rfl (by decide) rfl (by unfold plK; decide) hK1 hP ?_
  refine cq_g (pc' := 5) (ls' := [some (.ref r0), some (.int (iI x1))]) (st' := [.ref r0, .ref b2]) dX3_beginsSmall_4 (fun _ _ => rfl) ?_
  refine cq_g (pc' := 6) (ls' := [some (.ref r0), some (.int (iI x1))]) (st' := [.int (iI x1), .ref r0, .ref b2]) dX3_beginsSmall_5 (fun _ _ => rfl) ?_
  obtain ⟨hK3, h⟩ := h
  exact cq_call (th := false) (rest := [.ref b2]) (ls2 := [some (.ref r0), some (.int (iI x1))]) (pc' := 9) dX3_beginsSmall_6 (fun _ _ => ex_calV rfl (by decide)) rfl (Nat.le_of_ble_eq_true rfl) (Nat.le_of_ble_eq_true rfl) (Nat.le_of_ble_eq_true rfl) (cr_rcv rfl rfl (by decide) hK3) rfl rfl rfl (fun q => nomatch q) h
theorem c27_9 {c : CS} {Q : Rs → CS → Prop} {l0 : Option Value} {l1 : Option Value} {u0 : Int} {w1 : Nat}
    (h : yK c w1 = 7 ∧ CW g B O 89 0 [some (.int (iI (sg (yT c w1) u0)))] [] c (CK g B O 27 15 [l0, l1] [] Q false)) (hu0 : (-2147483648 : Int) ≤ u0 ∧ u0 ≤ 2147483647 := by omega) :
    CW g B O 27 9 [l0, l1] [.int (iI u0), .ref w1] c Q := by
  refine cq_R (fun hRc => ?_)
  obtain ⟨hK1, h⟩ := h
  refine cq_call (th := false) (rest := []) (ls2 := [some (.ref w1), some (.int (iI u0))]) (pc' := 12) dX3_beginsSmall_9 (fun _ _ => ex_calV rfl (by decide)) rfl (Nat.le_of_ble_eq_true rfl) (Nat.le_of_ble_eq_true rfl) (Nat.le_of_ble_eq_true rfl) (cr_rcv rfl rfl (by decide) hK1) rfl rfl rfl (fun q => nomatch q) (t56 hK1 hu0 ?_)
  show CW g B O 27 12 [l0, l1] [.int (iI (sg (yT c w1) u0))] c Q
  exact cq_call (th := false) (rest := []) (ls2 := [some (.int (iI (sg (yT c w1) u0)))]) (pc' := 15) dX3_beginsSmall_12 (fun _ _ => ex_calS rfl (by decide)) rfl (Nat.le_of_ble_eq_true rfl) (Nat.le_of_ble_eq_true rfl) (Nat.le_of_ble_eq_true rfl) (fun _ _ => rfl) rfl rfl rfl (fun q => nomatch q) h
theorem c27_15 {c : CS} {Q : Rs → CS → Prop} {l0 : Option Value} {l1 : Option Value} {u0 : Int}
    (h : (u0 = 0 ∨ u0 = 1) ∧ Q (Sum.inl (some (.int (iI u0)))) c) (hu0 : (-2147483648 : Int) ≤ u0 ∧ u0 ≤ 2147483647 := by omega) :
    CW g B O 27 15 [l0, l1] [.int (iI u0)] c Q := by
  refine cq_R (fun hRc => ?_)
  obtain ⟨hn, h⟩ := h
  exact cq_ret dX3_beginsSmall_15 (by rcases hn with q | q <;> rw [q] <;> rfl) h
theorem c28_0 {c : CS} {Q : Rs → CS → Prop} {r0 : Nat} {x1 : Int}
    (h : (x1 < 0 → CW g B O 28 21 [some (.ref r0), some (.int (iI x1))] [] c Q) ∧ (0 ≤ x1 → yK c r0 = 5 ∧ (yI c r0 3 ≤ x1 → CW g B O 28 21 [some (.ref r0), some (.int (iI x1))] [] c Q) ∧ (x1 < yI c r0 3 → yK c r0 = 5 ∧ ∃ b3, yP c r0 1 = some b3 ∧ (yK c b3 = 101 ∧ ((0 : Int) ≤ x1 ∧ x1 < yI c b3 (-1)) ∧ CW g B O 28 22 [some (.ref r0), some (.int (iI x1))] [.int (iI (yI c b3 x1))] c Q)))) (hx1 : (-2147483648 : Int) ≤ x1 ∧ x1 ≤ 2147483647 := by omega) :
    CW g B O 28 0 [some (.ref r0), some (.int (iI x1))] [] c Q := by
  refine cq_R (fun hRc => ?_)
  refine cq_g (pc' := 1) (ls' := [some (.ref r0), some (.int (iI x1))]) (st' := [.int (iI x1)]) dX3_wordStart_0 (fun _ _ => rfl) ?_
  obtain ⟨h1, h2⟩ := h
  refine cq_if (t := 21) dX3_wordStart_1 (by decide) (d_lt hx1 (by decide)) (fun q => ?_) (fun q => ?_)
  · have h := h1 q
    exact h
  · have h := h2 (Int.not_lt.mp q)
    refine cq_g (pc' := 5) (ls' := [some (.ref r0), some (.int (iI x1))]) (st' := [.int (iI x1)]) dX3_wordStart_4 (fun _ _ => rfl) ?_
    refine cq_g (pc' := 6) (ls' := [some (.ref r0), some (.int (iI x1))]) (st' := [.ref r0, .int (iI x1)]) dX3_wordStart_5 (fun _ _ => rfl) ?_
    obtain ⟨hK1, h⟩ := h
    refine cq_getI dX3_wordStart_6 rfl (by decide) rfl (by unfold plK; decide) hK1 ?_
    obtain ⟨h1, h2⟩ := h
    refine cq_icmp (t := 21) dX3_wordStart_9 (by decide) (d_ge hx1 (hRc.1 _ _)) (fun q => ?_) (fun q => ?_)
    · have h := h1 q
      exact h
    · have h := h2 (Int.not_le.mp q)
      refine cq_g (pc' := 13) (ls' := [some (.ref r0), some (.int (iI x1))]) (st' := [.ref r0]) dX3_wordStart_12 (fun _ _ => rfl) ?_
      obtain ⟨hK2, b3, hP, h⟩ := h
      refine cq_getP dX3_wordStart_13 rfl (by decide) rfl (by unfold plK; decide) hK2 hP ?_
      refine cq_g (pc' := 17) (ls' := [some (.ref r0), some (.int (iI x1))]) (st' := [.int (iI x1), .ref b3]) dX3_wordStart_16 (fun _ _ => rfl) ?_
      obtain ⟨hK5, hx4, h⟩ := h
      refine cq_iald dX3_wordStart_17 hK5 hx4 ?_
      refine cq_goto (t := 22) dX3_wordStart_18 (by decide) ?_
      exact h
theorem c28_21 {c : CS} {Q : Rs → CS → Prop} {l0 : Option Value} {l1 : Option Value}
    (h : CW g B O 28 22 [l0, l1] [.int (iI 0)] c Q)  :
    CW g B O 28 21 [l0, l1] [] c Q := by
  refine cq_R (fun hRc => ?_)
  refine cq_ic dX3_wordStart_21 ?_
  exact h
theorem c28_22 {c : CS} {Q : Rs → CS → Prop} {l0 : Option Value} {l1 : Option Value} {u0 : Int}
    (h : Q (Sum.inl (some (.int (iI u0)))) c) (hu0 : (-2147483648 : Int) ≤ u0 ∧ u0 ≤ 2147483647 := by omega) :
    CW g B O 28 22 [l0, l1] [.int (iI u0)] c Q := by
  refine cq_R (fun hRc => ?_)
  exact cq_ret dX3_wordStart_22 rfl h
theorem c29_0 {c : CS} {Q : Rs → CS → Prop} {r0 : Nat} {x1 : Int}
    (h : (x1 < 0 → CW g B O 29 29 [some (.ref r0), some (.int (iI x1))] [] c Q) ∧ (0 ≤ x1 → yK c r0 = 5 ∧ ∃ b2, yP c r0 4 = some b2 ∧ (yK c b2 = 1 ∧ (((yE c b2).length : Int) ≤ x1 → CW g B O 29 29 [some (.ref r0), some (.int (iI x1))] [] c Q) ∧ (x1 < ((yE c b2).length : Int) → yK c r0 = 5 ∧ ∃ b5, yP c r0 4 = some b5 ∧ (yK c b5 = 1 ∧ ((0 : Int) ≤ x1 ∧ x1 < (yE c b5).length) ∧ ∃ b8, (yE c b5).getD (x1).toNat 0 = b8 ∧ (yK c b8 = 4 ∧ CW g B O 29 33 [some (.ref r0), some (.int (iI x1))] [.ref b8] c Q)))))) (hx1 : (-2147483648 : Int) ≤ x1 ∧ x1 ≤ 2147483647 := by omega) :
    CW g B O 29 0 [some (.ref r0), some (.int (iI x1))] [] c Q := by
  refine cq_R (fun hRc => ?_)
  refine cq_g (pc' := 1) (ls' := [some (.ref r0), some (.int (iI x1))]) (st' := [.int (iI x1)]) dX3_personAt_0 (fun _ _ => rfl) ?_
  obtain ⟨h1, h2⟩ := h
  refine cq_if (t := 29) dX3_personAt_1 (by decide) (d_lt hx1 (by decide)) (fun q => ?_) (fun q => ?_)
  · have h := h1 q
    exact h
  · have h := h2 (Int.not_lt.mp q)
    refine cq_g (pc' := 5) (ls' := [some (.ref r0), some (.int (iI x1))]) (st' := [.int (iI x1)]) dX3_personAt_4 (fun _ _ => rfl) ?_
    refine cq_g (pc' := 6) (ls' := [some (.ref r0), some (.int (iI x1))]) (st' := [.ref r0, .int (iI x1)]) dX3_personAt_5 (fun _ _ => rfl) ?_
    obtain ⟨hK1, b2, hP, h⟩ := h
    refine cq_getP dX3_personAt_6 rfl (by decide) rfl (by unfold plK; decide) hK1 hP ?_
    obtain ⟨hK3, h⟩ := h
    refine cq_call (th := false) (rest := [.int (iI x1)]) (ls2 := [some (.ref b2)]) (pc' := 12) dX3_personAt_9 (fun _ _ => ex_calV rfl (by decide)) rfl (Nat.le_of_ble_eq_true rfl) (Nat.le_of_ble_eq_true rfl) (Nat.le_of_ble_eq_true rfl) (cr_rcv rfl rfl (by decide) hK3) rfl rfl rfl (fun q => nomatch q) (t161 hK3 ?_)
    show CW g B O 29 12 [some (.ref r0), some (.int (iI x1))] [.int (iI ((yE c b2).length : Int)), .int (iI x1)] c Q
    obtain ⟨h1, h2⟩ := h
    refine cq_icmp (t := 29) dX3_personAt_12 (by decide) (d_ge hx1 (crE hRc hK3)) (fun q => ?_) (fun q => ?_)
    · have h := h1 q
      exact h
    · have h := h2 (Int.not_le.mp q)
      refine cq_g (pc' := 16) (ls' := [some (.ref r0), some (.int (iI x1))]) (st' := [.ref r0]) dX3_personAt_15 (fun _ _ => rfl) ?_
      obtain ⟨hK4, b5, hP, h⟩ := h
      refine cq_getP dX3_personAt_16 rfl (by decide) rfl (by unfold plK; decide) hK4 hP ?_
      refine cq_g (pc' := 20) (ls' := [some (.ref r0), some (.int (iI x1))]) (st' := [.int (iI x1), .ref b5]) dX3_personAt_19 (fun _ _ => rfl) ?_
      obtain ⟨hK6, hx7, b8, hb9, h⟩ := h
      refine cq_call (th := false) (rest := []) (ls2 := [some (.ref b5), some (.int (iI x1))]) (pc' := 23) dX3_personAt_20 (fun _ _ => ex_calV rfl (by decide)) rfl (Nat.le_of_ble_eq_true rfl) (Nat.le_of_ble_eq_true rfl) (Nat.le_of_ble_eq_true rfl) (cr_rcv rfl rfl (by decide) hK6) rfl rfl rfl (fun q => nomatch q) (t163 (x := x1) hK6 hx7 ?_)
      rw [hb9]
      show CW g B O 29 23 [some (.ref r0), some (.int (iI x1))] [.ref b8] c Q
      obtain ⟨hK10, h⟩ := h
      refine cq_chk dX3_personAt_23 rfl (by decide) hK10 ?_
      refine cq_goto (t := 33) dX3_personAt_26 (by decide) ?_
      exact h
theorem c29_29 {c : CS} {Q : Rs → CS → Prop} {r0 : Nat} {l1 : Option Value}
    (h : yK c r0 = 5 ∧ ∃ b2, yP c r0 5 = some b2 ∧ (CW g B O 29 33 [some (.ref r0), l1] [.ref b2] c Q))  :
    CW g B O 29 29 [some (.ref r0), l1] [] c Q := by
  refine cq_R (fun hRc => ?_)
  refine cq_g (pc' := 30) (ls' := [some (.ref r0), l1]) (st' := [.ref r0]) dX3_personAt_29 (fun _ _ => rfl) ?_
  obtain ⟨hK1, b2, hP, h⟩ := h
  refine cq_getP dX3_personAt_30 rfl (by decide) rfl (by unfold plK; decide) hK1 hP ?_
  exact h
theorem c29_33 {c : CS} {Q : Rs → CS → Prop} {l0 : Option Value} {l1 : Option Value} {w0 : Nat}
    (h : Q (Sum.inl (some (.ref w0))) c)  :
    CW g B O 29 33 [l0, l1] [.ref w0] c Q := by
  refine cq_R (fun hRc => ?_)
  exact cq_aret dX3_personAt_33 rfl h
theorem c30_0 {c : CS} {Q : Rs → CS → Prop} {r0 : Nat} {x1 : Int}
    (h : yK c r0 = 5 ∧ CW g B O 29 0 [some (.ref r0), some (.int (iI x1))] [] c (CK g B O 30 5 [some (.ref r0), some (.int (iI x1))] [] Q false)) (hx1 : (-2147483648 : Int) ≤ x1 ∧ x1 ≤ 2147483647 := by omega) :
    CW g B O 30 0 [some (.ref r0), some (.int (iI x1))] [] c Q := by
  refine cq_R (fun hRc => ?_)
  refine cq_g (pc' := 1) (ls' := [some (.ref r0), some (.int (iI x1))]) (st' := [.ref r0]) dX3_hasGiven_0 (fun _ _ => rfl) ?_
  refine cq_g (pc' := 2) (ls' := [some (.ref r0), some (.int (iI x1))]) (st' := [.int (iI x1), .ref r0]) dX3_hasGiven_1 (fun _ _ => rfl) ?_
  obtain ⟨hK1, h⟩ := h
  exact cq_call (th := false) (rest := []) (ls2 := [some (.ref r0), some (.int (iI x1))]) (pc' := 5) dX3_hasGiven_2 (fun _ _ => ex_calV rfl (by decide)) rfl (Nat.le_of_ble_eq_true rfl) (Nat.le_of_ble_eq_true rfl) (Nat.le_of_ble_eq_true rfl) (cr_rcv rfl rfl (by decide) hK1) rfl rfl rfl (fun q => nomatch q) h
theorem c30_5 {c : CS} {Q : Rs → CS → Prop} {l0 : Option Value} {l1 : Option Value} {w0 : Nat}
    (h : yK c w0 = 4 ∧ CW g B O 17 0 [some (.ref w0)] [] c (CK g B O 30 8 [l0, l1] [] Q false))  :
    CW g B O 30 5 [l0, l1] [.ref w0] c Q := by
  refine cq_R (fun hRc => ?_)
  obtain ⟨hK1, h⟩ := h
  exact cq_call (th := false) (rest := []) (ls2 := [some (.ref w0)]) (pc' := 8) dX3_hasGiven_5 (fun _ _ => ex_calV rfl (by decide)) rfl (Nat.le_of_ble_eq_true rfl) (Nat.le_of_ble_eq_true rfl) (Nat.le_of_ble_eq_true rfl) (cr_rcv rfl rfl (by decide) hK1) rfl rfl rfl (fun q => nomatch q) h
theorem c30_8 {c : CS} {Q : Rs → CS → Prop} {l0 : Option Value} {l1 : Option Value} {u0 : Int}
    (h : (u0 = 0 ∨ u0 = 1) ∧ Q (Sum.inl (some (.int (iI u0)))) c) (hu0 : (-2147483648 : Int) ≤ u0 ∧ u0 ≤ 2147483647 := by omega) :
    CW g B O 30 8 [l0, l1] [.int (iI u0)] c Q := by
  refine cq_R (fun hRc => ?_)
  obtain ⟨hn, h⟩ := h
  exact cq_ret dX3_hasGiven_8 (by rcases hn with q | q <;> rw [q] <;> rfl) h
theorem c31_0 {c : CS} {Q : Rs → CS → Prop} {r0 : Nat} {x1 : Int} {r2 : Nat}
    (h : yK c r0 = 5 ∧ CW g B O 29 0 [some (.ref r0), some (.int (iI x1))] [] c (CK g B O 31 6 [some (.ref r0), some (.int (iI x1)), some (.ref r2)] [.ref r0] Q false)) (hx1 : (-2147483648 : Int) ≤ x1 ∧ x1 ≤ 2147483647 := by omega) :
    CW g B O 31 0 [some (.ref r0), some (.int (iI x1)), some (.ref r2)] [] c Q := by
  refine cq_R (fun hRc => ?_)
  refine cq_g (pc' := 1) (ls' := [some (.ref r0), some (.int (iI x1)), some (.ref r2)]) (st' := [.ref r0]) dX3_addName_0 (fun _ _ => rfl) ?_
  refine cq_g (pc' := 2) (ls' := [some (.ref r0), some (.int (iI x1)), some (.ref r2)]) (st' := [.ref r0, .ref r0]) dX3_addName_1 (fun _ _ => rfl) ?_
  refine cq_g (pc' := 3) (ls' := [some (.ref r0), some (.int (iI x1)), some (.ref r2)]) (st' := [.int (iI x1), .ref r0, .ref r0]) dX3_addName_2 (fun _ _ => rfl) ?_
  obtain ⟨hK1, h⟩ := h
  exact cq_call (th := false) (rest := [.ref r0]) (ls2 := [some (.ref r0), some (.int (iI x1))]) (pc' := 6) dX3_addName_3 (fun _ _ => ex_calV rfl (by decide)) rfl (Nat.le_of_ble_eq_true rfl) (Nat.le_of_ble_eq_true rfl) (Nat.le_of_ble_eq_true rfl) (cr_rcv rfl rfl (by decide) hK1) rfl rfl rfl (fun q => nomatch q) h
theorem c31_6 {c : CS} {Q : Rs → CS → Prop} {r0 : Nat} {x1 : Int} {r2 : Nat} {w0 : Nat} {w1 : Nat}
    (h : yK c w0 = 4 ∧ yK c r0 = 5 ∧ CW g B O 29 0 [some (.ref r0), some (.int (iI x1))] [] c (CK g B O 31 14 [some (.ref r0), some (.int (iI x1)), some (.ref r2)] [.int (iI (yI c w0 2)), .ref w1] Q false)) (hx1 : (-2147483648 : Int) ≤ x1 ∧ x1 ≤ 2147483647 := by omega) :
    CW g B O 31 6 [some (.ref r0), some (.int (iI x1)), some (.ref r2)] [.ref w0, .ref w1] c Q := by
  refine cq_R (fun hRc => ?_)
  obtain ⟨hK1, h⟩ := h
  refine cq_getI dX3_addName_6 rfl (by decide) rfl (by unfold plK; decide) hK1 ?_
  refine cq_g (pc' := 10) (ls' := [some (.ref r0), some (.int (iI x1)), some (.ref r2)]) (st' := [.ref r0, .int (iI (yI c w0 2)), .ref w1]) dX3_addName_9 (fun _ _ => rfl) ?_
  refine cq_g (pc' := 11) (ls' := [some (.ref r0), some (.int (iI x1)), some (.ref r2)]) (st' := [.int (iI x1), .ref r0, .int (iI (yI c w0 2)), .ref w1]) dX3_addName_10 (fun _ _ => rfl) ?_
  obtain ⟨hK2, h⟩ := h
  exact cq_call (th := false) (rest := [.int (iI (yI c w0 2)), .ref w1]) (ls2 := [some (.ref r0), some (.int (iI x1))]) (pc' := 14) dX3_addName_11 (fun _ _ => ex_calV rfl (by decide)) rfl (Nat.le_of_ble_eq_true rfl) (Nat.le_of_ble_eq_true rfl) (Nat.le_of_ble_eq_true rfl) (cr_rcv rfl rfl (by decide) hK2) rfl rfl rfl (fun q => nomatch q) h
theorem c31_14 {c : CS} {Q : Rs → CS → Prop} {l0 : Option Value} {l1 : Option Value} {r2 : Nat} {w0 : Nat} {u1 : Int} {w2 : Nat}
    (h : yK c w0 = 4 ∧ yK c w2 = 5 ∧ CW g B O 34 0 [some (.ref w2), some (.int (iI u1)), some (.int (iI (yI c w0 4))), some (.ref r2), none, none] [] c (CK g B O 31 21 [l0, l1, some (.ref r2)] [] Q false)) (hu1 : (-2147483648 : Int) ≤ u1 ∧ u1 ≤ 2147483647 := by omega) :
    CW g B O 31 14 [l0, l1, some (.ref r2)] [.ref w0, .int (iI u1), .ref w2] c Q := by
  refine cq_R (fun hRc => ?_)
  obtain ⟨hK1, h⟩ := h
  refine cq_getI dX3_addName_14 rfl (by decide) rfl (by unfold plK; decide) hK1 ?_
  refine cq_g (pc' := 18) (ls' := [l0, l1, some (.ref r2)]) (st' := [.ref r2, .int (iI (yI c w0 4)), .int (iI u1), .ref w2]) dX3_addName_17 (fun _ _ => rfl) ?_
  obtain ⟨hK2, h⟩ := h
  exact cq_call (th := false) (rest := []) (ls2 := [some (.ref w2), some (.int (iI u1)), some (.int (iI (yI c w0 4))), some (.ref r2), none, none]) (pc' := 21) dX3_addName_18 (fun _ _ => ex_calV rfl (by decide)) rfl (Nat.le_of_ble_eq_true rfl) (Nat.le_of_ble_eq_true rfl) (Nat.le_of_ble_eq_true rfl) (cr_rcv rfl rfl (by decide) hK2) rfl rfl rfl (fun q => nomatch q) h
theorem c31_21 {c : CS} {Q : Rs → CS → Prop} {l0 : Option Value} {l1 : Option Value} {l2 : Option Value}
    (h : Q (Sum.inl none) c)  :
    CW g B O 31 21 [l0, l1, l2] [] c Q := by
  refine cq_R (fun hRc => ?_)
  exact cq_vret dX3_addName_21 rfl h
theorem c32_0 {c : CS} {Q : Rs → CS → Prop} {r0 : Nat} {x1 : Int} {r2 : Nat}
    (h : yK c r0 = 5 ∧ CW g B O 29 0 [some (.ref r0), some (.int (iI x1))] [] c (CK g B O 32 6 [some (.ref r0), some (.int (iI x1)), some (.ref r2)] [.ref r0] Q false)) (hx1 : (-2147483648 : Int) ≤ x1 ∧ x1 ≤ 2147483647 := by omega) :
    CW g B O 32 0 [some (.ref r0), some (.int (iI x1)), some (.ref r2)] [] c Q := by
  refine cq_R (fun hRc => ?_)
  refine cq_g (pc' := 1) (ls' := [some (.ref r0), some (.int (iI x1)), some (.ref r2)]) (st' := [.ref r0]) dX3_addFamily_0 (fun _ _ => rfl) ?_
  refine cq_g (pc' := 2) (ls' := [some (.ref r0), some (.int (iI x1)), some (.ref r2)]) (st' := [.ref r0, .ref r0]) dX3_addFamily_1 (fun _ _ => rfl) ?_
  refine cq_g (pc' := 3) (ls' := [some (.ref r0), some (.int (iI x1)), some (.ref r2)]) (st' := [.int (iI x1), .ref r0, .ref r0]) dX3_addFamily_2 (fun _ _ => rfl) ?_
  obtain ⟨hK1, h⟩ := h
  exact cq_call (th := false) (rest := [.ref r0]) (ls2 := [some (.ref r0), some (.int (iI x1))]) (pc' := 6) dX3_addFamily_3 (fun _ _ => ex_calV rfl (by decide)) rfl (Nat.le_of_ble_eq_true rfl) (Nat.le_of_ble_eq_true rfl) (Nat.le_of_ble_eq_true rfl) (cr_rcv rfl rfl (by decide) hK1) rfl rfl rfl (fun q => nomatch q) h
theorem c32_6 {c : CS} {Q : Rs → CS → Prop} {r0 : Nat} {x1 : Int} {r2 : Nat} {w0 : Nat} {w1 : Nat}
    (h : yK c w0 = 4 ∧ yK c r0 = 5 ∧ CW g B O 29 0 [some (.ref r0), some (.int (iI x1))] [] c (CK g B O 32 14 [some (.ref r0), some (.int (iI x1)), some (.ref r2)] [.int (iI (yI c w0 3)), .ref w1] Q false)) (hx1 : (-2147483648 : Int) ≤ x1 ∧ x1 ≤ 2147483647 := by omega) :
    CW g B O 32 6 [some (.ref r0), some (.int (iI x1)), some (.ref r2)] [.ref w0, .ref w1] c Q := by
  refine cq_R (fun hRc => ?_)
  obtain ⟨hK1, h⟩ := h
  refine cq_getI dX3_addFamily_6 rfl (by decide) rfl (by unfold plK; decide) hK1 ?_
  refine cq_g (pc' := 10) (ls' := [some (.ref r0), some (.int (iI x1)), some (.ref r2)]) (st' := [.ref r0, .int (iI (yI c w0 3)), .ref w1]) dX3_addFamily_9 (fun _ _ => rfl) ?_
  refine cq_g (pc' := 11) (ls' := [some (.ref r0), some (.int (iI x1)), some (.ref r2)]) (st' := [.int (iI x1), .ref r0, .int (iI (yI c w0 3)), .ref w1]) dX3_addFamily_10 (fun _ _ => rfl) ?_
  obtain ⟨hK2, h⟩ := h
  exact cq_call (th := false) (rest := [.int (iI (yI c w0 3)), .ref w1]) (ls2 := [some (.ref r0), some (.int (iI x1))]) (pc' := 14) dX3_addFamily_11 (fun _ _ => ex_calV rfl (by decide)) rfl (Nat.le_of_ble_eq_true rfl) (Nat.le_of_ble_eq_true rfl) (Nat.le_of_ble_eq_true rfl) (cr_rcv rfl rfl (by decide) hK2) rfl rfl rfl (fun q => nomatch q) h
theorem c32_14 {c : CS} {Q : Rs → CS → Prop} {l0 : Option Value} {l1 : Option Value} {r2 : Nat} {w0 : Nat} {u1 : Int} {w2 : Nat}
    (h : yK c w0 = 4 ∧ yK c w2 = 5 ∧ CW g B O 34 0 [some (.ref w2), some (.int (iI u1)), some (.int (iI (yI c w0 4))), some (.ref r2), none, none] [] c (CK g B O 32 21 [l0, l1, some (.ref r2)] [] Q false)) (hu1 : (-2147483648 : Int) ≤ u1 ∧ u1 ≤ 2147483647 := by omega) :
    CW g B O 32 14 [l0, l1, some (.ref r2)] [.ref w0, .int (iI u1), .ref w2] c Q := by
  refine cq_R (fun hRc => ?_)
  obtain ⟨hK1, h⟩ := h
  refine cq_getI dX3_addFamily_14 rfl (by decide) rfl (by unfold plK; decide) hK1 ?_
  refine cq_g (pc' := 18) (ls' := [l0, l1, some (.ref r2)]) (st' := [.ref r2, .int (iI (yI c w0 4)), .int (iI u1), .ref w2]) dX3_addFamily_17 (fun _ _ => rfl) ?_
  obtain ⟨hK2, h⟩ := h
  exact cq_call (th := false) (rest := []) (ls2 := [some (.ref w2), some (.int (iI u1)), some (.int (iI (yI c w0 4))), some (.ref r2), none, none]) (pc' := 21) dX3_addFamily_18 (fun _ _ => ex_calV rfl (by decide)) rfl (Nat.le_of_ble_eq_true rfl) (Nat.le_of_ble_eq_true rfl) (Nat.le_of_ble_eq_true rfl) (cr_rcv rfl rfl (by decide) hK2) rfl rfl rfl (fun q => nomatch q) h
theorem c32_21 {c : CS} {Q : Rs → CS → Prop} {l0 : Option Value} {l1 : Option Value} {l2 : Option Value}
    (h : Q (Sum.inl none) c)  :
    CW g B O 32 21 [l0, l1, l2] [] c Q := by
  refine cq_R (fun hRc => ?_)
  exact cq_vret dX3_addFamily_21 rfl h
theorem c33_0 {c : CS} {Q : Rs → CS → Prop} {r0 : Nat} {x1 : Int} {r2 : Nat} {l3 : Option Value} {l4 : Option Value}
    (h : yK c r0 = 5 ∧ CW g B O 29 0 [some (.ref r0), some (.int (iI x1))] [] c (CK g B O 33 5 [some (.ref r0), some (.int (iI x1)), some (.ref r2), l3, l4] [] Q false)) (hx1 : (-2147483648 : Int) ≤ x1 ∧ x1 ≤ 2147483647 := by omega) :
    CW g B O 33 0 [some (.ref r0), some (.int (iI x1)), some (.ref r2), l3, l4] [] c Q := by
  refine cq_R (fun hRc => ?_)
  refine cq_g (pc' := 1) (ls' := [some (.ref r0), some (.int (iI x1)), some (.ref r2), l3, l4]) (st' := [.ref r0]) dX3_addInitials_0 (fun _ _ => rfl) ?_
  refine cq_g (pc' := 2) (ls' := [some (.ref r0), some (.int (iI x1)), some (.ref r2), l3, l4]) (st' := [.int (iI x1), .ref r0]) dX3_addInitials_1 (fun _ _ => rfl) ?_
  obtain ⟨hK1, h⟩ := h
  exact cq_call (th := false) (rest := []) (ls2 := [some (.ref r0), some (.int (iI x1))]) (pc' := 5) dX3_addInitials_2 (fun _ _ => ex_calV rfl (by decide)) rfl (Nat.le_of_ble_eq_true rfl) (Nat.le_of_ble_eq_true rfl) (Nat.le_of_ble_eq_true rfl) (cr_rcv rfl rfl (by decide) hK1) rfl rfl rfl (fun q => nomatch q) h
theorem c33_5 {c : CS} {Q : Rs → CS → Prop} {r0 : Nat} {l1 : Option Value} {r2 : Nat} {l3 : Option Value} {l4 : Option Value} {w0 : Nat}
    (h : yK c w0 = 4 ∧ CW g B O 33 12 [some (.ref r0), l1, some (.ref r2), some (.ref w0), some (.int (iI (yI c w0 0)))] [] c Q)  :
    CW g B O 33 5 [some (.ref r0), l1, some (.ref r2), l3, l4] [.ref w0] c Q := by
  refine cq_R (fun hRc => ?_)
  refine cq_g (pc' := 6) (ls' := [some (.ref r0), l1, some (.ref r2), some (.ref w0), l4]) (st' := []) dX3_addInitials_5 (fun _ _ => rfl) ?_
  refine cq_g (pc' := 7) (ls' := [some (.ref r0), l1, some (.ref r2), some (.ref w0), l4]) (st' := [.ref w0]) dX3_addInitials_6 (fun _ _ => rfl) ?_
  obtain ⟨hK1, h⟩ := h
  refine cq_getI dX3_addInitials_7 rfl (by decide) rfl (by unfold plK; decide) hK1 ?_
  refine cq_g (pc' := 12) (ls' := [some (.ref r0), l1, some (.ref r2), some (.ref w0), some (.int (iI (yI c w0 0)))]) (st' := []) dX3_addInitials_10 (fun _ _ => rfl) ?_
  exact h
theorem c33_12 {c : CS} {Q : Rs → CS → Prop} {r0 : Nat} {l1 : Option Value} {r2 : Nat} {r3 : Nat} {x4 : Int}
    (h : yK c r3 = 4 ∧ (yI c r3 1 ≤ x4 → Q (Sum.inl none) c) ∧ (x4 < yI c r3 1 → yK c r3 = 4 ∧ (x4 ≤ yI c r3 0 → CW g B O 33 36 [some (.ref r0), l1, some (.ref r2), some (.ref r3), some (.int (iI x4))] [] c Q) ∧ (yI c r3 0 < x4 → yK c r2 = 7 ∧ ((0 : Int) ≤ 32 ∧ (32 : Int) ≤ 65535) ∧ (yT c r2).length < 1024 ∧ (∀ d6, d6 = wT c r2 (yT c r2 ++ [32]) → CW g B O 33 36 [some (.ref r0), l1, some (.ref r2), some (.ref r3), some (.int (iI x4))] [] d6 Q)))) (hx4 : (-2147483648 : Int) ≤ x4 ∧ x4 ≤ 2147483647 := by omega) :
    CW g B O 33 12 [some (.ref r0), l1, some (.ref r2), some (.ref r3), some (.int (iI x4))] [] c Q := by
  refine cq_R (fun hRc => ?_)
  refine cq_g (pc' := 14) (ls' := [some (.ref r0), l1, some (.ref r2), some (.ref r3), some (.int (iI x4))]) (st' := [.int (iI x4)]) dX3_addInitials_12 (fun _ _ => rfl) ?_
  refine cq_g (pc' := 15) (ls' := [some (.ref r0), l1, some (.ref r2), some (.ref r3), some (.int (iI x4))]) (st' := [.ref r3, .int (iI x4)]) dX3_addInitials_14 (fun _ _ => rfl) ?_
  obtain ⟨hK1, h⟩ := h
  refine cq_getI dX3_addInitials_15 rfl (by decide) rfl (by unfold plK; decide) hK1 ?_
  obtain ⟨h1, h2⟩ := h
  refine cq_icmp (t := 65) dX3_addInitials_18 (by decide) (d_ge hx4 (hRc.1 _ _)) (fun q => ?_) (fun q => ?_)
  · have h := h1 q
    exact cq_vret dX3_addInitials_65 rfl h
  · have h := h2 (Int.not_le.mp q)
    refine cq_g (pc' := 23) (ls' := [some (.ref r0), l1, some (.ref r2), some (.ref r3), some (.int (iI x4))]) (st' := [.int (iI x4)]) dX3_addInitials_21 (fun _ _ => rfl) ?_
    refine cq_g (pc' := 24) (ls' := [some (.ref r0), l1, some (.ref r2), some (.ref r3), some (.int (iI x4))]) (st' := [.ref r3, .int (iI x4)]) dX3_addInitials_23 (fun _ _ => rfl) ?_
    obtain ⟨hK2, h⟩ := h
    refine cq_getI dX3_addInitials_24 rfl (by decide) rfl (by unfold plK; decide) hK2 ?_
    obtain ⟨h1, h2⟩ := h
    refine cq_icmp (t := 36) dX3_addInitials_27 (by decide) (d_le hx4 (hRc.1 _ _)) (fun q => ?_) (fun q => ?_)
    · have h := h1 q
      exact h
    · have h := h2 (Int.not_le.mp q)
      refine cq_g (pc' := 31) (ls' := [some (.ref r0), l1, some (.ref r2), some (.ref r3), some (.int (iI x4))]) (st' := [.ref r2]) dX3_addInitials_30 (fun _ _ => rfl) ?_
      refine cq_bi dX3_addInitials_31 (by decide) ?_
      obtain ⟨hK3, hx4, hl5, h⟩ := h
      refine cq_call (th := false) (rest := []) (ls2 := [some (.ref r2), some (.int (iI 32)), none]) (pc' := 36) dX3_addInitials_33 (fun _ _ => ex_calV rfl (by decide)) rfl (Nat.le_of_ble_eq_true rfl) (Nat.le_of_ble_eq_true rfl) (Nat.le_of_ble_eq_true rfl) (cr_rcv rfl rfl (by decide) hK3) rfl rfl rfl (fun q => nomatch q) (t57 hK3 hx4 hl5 ?_)
      show CW g B O 33 36 [some (.ref r0), l1, some (.ref r2), some (.ref r3), some (.int (iI x4))] [] (wT c r2 (yT c r2 ++ [32])) Q
      generalize ed6 : wT c r2 (yT c r2 ++ [32]) = d6
      replace h := h _ ed6.symm
      refine cq_R (fun hRd6 => ?_)
      exact h
theorem c33_36 {c : CS} {Q : Rs → CS → Prop} {r0 : Nat} {l1 : Option Value} {r2 : Nat} {r3 : Nat} {x4 : Int}
    (h : yK c r0 = 5 ∧ ∃ b2, yP c r0 0 = some b2 ∧ (yK c r0 = 5 ∧ CW g B O 28 0 [some (.ref r0), some (.int (iI x4))] [] c (CK g B O 33 47 [some (.ref r0), l1, some (.ref r2), some (.ref r3), some (.int (iI x4))] [.ref b2, .ref r2] Q false))) (hx4 : (-2147483648 : Int) ≤ x4 ∧ x4 ≤ 2147483647 := by omega) :
    CW g B O 33 36 [some (.ref r0), l1, some (.ref r2), some (.ref r3), some (.int (iI x4))] [] c Q := by
  refine cq_R (fun hRc => ?_)
  refine cq_g (pc' := 37) (ls' := [some (.ref r0), l1, some (.ref r2), some (.ref r3), some (.int (iI x4))]) (st' := [.ref r2]) dX3_addInitials_36 (fun _ _ => rfl) ?_
  refine cq_g (pc' := 38) (ls' := [some (.ref r0), l1, some (.ref r2), some (.ref r3), some (.int (iI x4))]) (st' := [.ref r0, .ref r2]) dX3_addInitials_37 (fun _ _ => rfl) ?_
  obtain ⟨hK1, b2, hP, h⟩ := h
  refine cq_getP dX3_addInitials_38 rfl (by decide) rfl (by unfold plK; decide) hK1 hP ?_
  refine cq_g (pc' := 42) (ls' := [some (.ref r0), l1, some (.ref r2), some (.ref r3), some (.int (iI x4))]) (st' := [.ref r0, .ref b2, .ref r2]) dX3_addInitials_41 (fun _ _ => rfl) ?_
  refine cq_g (pc' := 44) (ls' := [some (.ref r0), l1, some (.ref r2), some (.ref r3), some (.int (iI x4))]) (st' := [.int (iI x4), .ref r0, .ref b2, .ref r2]) dX3_addInitials_42 (fun _ _ => rfl) ?_
  obtain ⟨hK3, h⟩ := h
  exact cq_call (th := false) (rest := [.ref b2, .ref r2]) (ls2 := [some (.ref r0), some (.int (iI x4))]) (pc' := 47) dX3_addInitials_44 (fun _ _ => ex_calV rfl (by decide)) rfl (Nat.le_of_ble_eq_true rfl) (Nat.le_of_ble_eq_true rfl) (Nat.le_of_ble_eq_true rfl) (cr_rcv rfl rfl (by decide) hK3) rfl rfl rfl (fun q => nomatch q) h
theorem c33_47 {c : CS} {Q : Rs → CS → Prop} {r0 : Nat} {l1 : Option Value} {r2 : Nat} {r3 : Nat} {x4 : Int} {u0 : Int} {w1 : Nat} {w2 : Nat}
    (h : yK c w1 = 7 ∧ yK c w2 = 7 ∧ ((0 : Int) ≤ sg (yT c w1) u0 ∧ sg (yT c w1) u0 ≤ 65535) ∧ (yT c w2).length < 1024 ∧ (∀ d5, d5 = wT c w2 (yT c w2 ++ [sg (yT c w1) u0]) → yK d5 r2 = 7 ∧ ((0 : Int) ≤ 46 ∧ (46 : Int) ≤ 65535) ∧ (yT d5 r2).length < 1024 ∧ (∀ d9, d9 = wT d5 r2 (yT d5 r2 ++ [46]) → ((-2147483648 : Int) ≤ x4 + 1 ∧ x4 + 1 ≤ 2147483647) ∧ CW g B O 33 12 [some (.ref r0), l1, some (.ref r2), some (.ref r3), some (.int (iI (x4 + 1)))] [] d9 Q))) (hx4 : (-2147483648 : Int) ≤ x4 ∧ x4 ≤ 2147483647 := by omega) (hu0 : (-2147483648 : Int) ≤ u0 ∧ u0 ≤ 2147483647 := by omega) :
    CW g B O 33 47 [some (.ref r0), l1, some (.ref r2), some (.ref r3), some (.int (iI x4))] [.int (iI u0), .ref w1, .ref w2] c Q := by
  refine cq_R (fun hRc => ?_)
  obtain ⟨hK1, h⟩ := h
  refine cq_call (th := false) (rest := [.ref w2]) (ls2 := [some (.ref w1), some (.int (iI u0))]) (pc' := 50) dX3_addInitials_47 (fun _ _ => ex_calV rfl (by decide)) rfl (Nat.le_of_ble_eq_true rfl) (Nat.le_of_ble_eq_true rfl) (Nat.le_of_ble_eq_true rfl) (cr_rcv rfl rfl (by decide) hK1) rfl rfl rfl (fun q => nomatch q) (t56 hK1 hu0 ?_)
  show CW g B O 33 50 [some (.ref r0), l1, some (.ref r2), some (.ref r3), some (.int (iI x4))] [.int (iI (sg (yT c w1) u0)), .ref w2] c Q
  obtain ⟨hK2, hx3, hl4, h⟩ := h
  refine cq_call (th := false) (rest := []) (ls2 := [some (.ref w2), some (.int (iI (sg (yT c w1) u0))), none]) (pc' := 53) dX3_addInitials_50 (fun _ _ => ex_calV rfl (by decide)) rfl (Nat.le_of_ble_eq_true rfl) (Nat.le_of_ble_eq_true rfl) (Nat.le_of_ble_eq_true rfl) (cr_rcv rfl rfl (by decide) hK2) rfl rfl rfl (fun q => nomatch q) (t57 hK2 hx3 hl4 ?_)
  show CW g B O 33 53 [some (.ref r0), l1, some (.ref r2), some (.ref r3), some (.int (iI x4))] [] (wT c w2 (yT c w2 ++ [sg (yT c w1) u0])) Q
  generalize ed5 : wT c w2 (yT c w2 ++ [sg (yT c w1) u0]) = d5
  replace h := h _ ed5.symm
  refine cq_R (fun hRd5 => ?_)
  refine cq_g (pc' := 54) (ls' := [some (.ref r0), l1, some (.ref r2), some (.ref r3), some (.int (iI x4))]) (st' := [.ref r2]) dX3_addInitials_53 (fun _ _ => rfl) ?_
  refine cq_bi dX3_addInitials_54 (by decide) ?_
  obtain ⟨hK6, hx7, hl8, h⟩ := h
  refine cq_call (th := false) (rest := []) (ls2 := [some (.ref r2), some (.int (iI 46)), none]) (pc' := 59) dX3_addInitials_56 (fun _ _ => ex_calV rfl (by decide)) rfl (Nat.le_of_ble_eq_true rfl) (Nat.le_of_ble_eq_true rfl) (Nat.le_of_ble_eq_true rfl) (cr_rcv rfl rfl (by decide) hK6) rfl rfl rfl (fun q => nomatch q) (t57 hK6 hx7 hl8 ?_)
  show CW g B O 33 59 [some (.ref r0), l1, some (.ref r2), some (.ref r3), some (.int (iI x4))] [] (wT d5 r2 (yT d5 r2 ++ [46])) Q
  generalize ed9 : wT d5 r2 (yT d5 r2 ++ [46]) = d9
  replace h := h _ ed9.symm
  refine cq_R (fun hRd9 => ?_)
  obtain ⟨hr10, h⟩ := h
  refine cq_inc (ls' := [some (.ref r0), l1, some (.ref r2), some (.ref r3), some (.int (iI (x4 + 1)))]) dX3_addInitials_59 rfl (Nat.le_of_ble_eq_true rfl) rfl ?_
  refine cq_goto (t := 12) dX3_addInitials_62 (by decide) ?_
  exact h
theorem c34_0 {c : CS} {Q : Rs → CS → Prop} {r0 : Nat} {x1 : Int} {x2 : Int} {r3 : Nat} {l4 : Option Value} {l5 : Option Value}
    (h : CW g B O 34 7 [some (.ref r0), some (.int (iI x1)), some (.int (iI x2)), some (.ref r3), some (.int (iI (max x1 0))), l5] [] c Q) (hx1 : (-2147483648 : Int) ≤ x1 ∧ x1 ≤ 2147483647 := by omega) (hx2 : (-2147483648 : Int) ≤ x2 ∧ x2 ≤ 2147483647 := by omega) :
    CW g B O 34 0 [some (.ref r0), some (.int (iI x1)), some (.int (iI x2)), some (.ref r3), l4, l5] [] c Q := by
  refine cq_R (fun hRc => ?_)
  refine cq_g (pc' := 1) (ls' := [some (.ref r0), some (.int (iI x1)), some (.int (iI x2)), some (.ref r3), l4, l5]) (st' := [.int (iI x1)]) dX3_addWords_0 (fun _ _ => rfl) ?_
  refine cq_ic dX3_addWords_1 ?_
  refine cq_max dX3_addWords_2 rfl ⟨Nat.le_of_ble_eq_true rfl, Nat.le_of_ble_eq_true rfl, Nat.le_of_ble_eq_true rfl⟩ hx1 (by decide) ?_
  refine cq_g (pc' := 7) (ls' := [some (.ref r0), some (.int (iI x1)), some (.int (iI x2)), some (.ref r3), some (.int (iI (max x1 0))), l5]) (st' := []) dX3_addWords_5 (fun _ _ => rfl) ?_
  exact h
theorem c34_7 {c : CS} {Q : Rs → CS → Prop} {r0 : Nat} {x1 : Int} {x2 : Int} {r3 : Nat} {x4 : Int} {l5 : Option Value}
    (h : (x2 ≤ x4 → CW g B O 34 80 [some (.ref r0), some (.int (iI x1)), some (.int (iI x2)), some (.ref r3), some (.int (iI x4)), l5] [] c Q) ∧ (x4 < x2 → yK c r0 = 5 ∧ (yI c r0 3 ≤ x4 → CW g B O 34 80 [some (.ref r0), some (.int (iI x1)), some (.int (iI x2)), some (.ref r3), some (.int (iI x4)), l5] [] c Q) ∧ (x4 < yI c r0 3 → (x4 ≤ x1 → CW g B O 34 34 [some (.ref r0), some (.int (iI x1)), some (.int (iI x2)), some (.ref r3), some (.int (iI x4)), l5] [] c Q) ∧ (x1 < x4 → yK c r3 = 7 ∧ ((0 : Int) ≤ 32 ∧ (32 : Int) ≤ 65535) ∧ (yT c r3).length < 1024 ∧ (∀ d5, d5 = wT c r3 (yT c r3 ++ [32]) → CW g B O 34 34 [some (.ref r0), some (.int (iI x1)), some (.int (iI x2)), some (.ref r3), some (.int (iI x4)), l5] [] d5 Q))))) (hx1 : (-2147483648 : Int) ≤ x1 ∧ x1 ≤ 2147483647 := by omega) (hx2 : (-2147483648 : Int) ≤ x2 ∧ x2 ≤ 2147483647 := by omega) (hx4 : (-2147483648 : Int) ≤ x4 ∧ x4 ≤ 2147483647 := by omega) :
    CW g B O 34 7 [some (.ref r0), some (.int (iI x1)), some (.int (iI x2)), some (.ref r3), some (.int (iI x4)), l5] [] c Q := by
  refine cq_R (fun hRc => ?_)
  refine cq_g (pc' := 9) (ls' := [some (.ref r0), some (.int (iI x1)), some (.int (iI x2)), some (.ref r3), some (.int (iI x4)), l5]) (st' := [.int (iI x4)]) dX3_addWords_7 (fun _ _ => rfl) ?_
  refine cq_g (pc' := 10) (ls' := [some (.ref r0), some (.int (iI x1)), some (.int (iI x2)), some (.ref r3), some (.int (iI x4)), l5]) (st' := [.int (iI x2), .int (iI x4)]) dX3_addWords_9 (fun _ _ => rfl) ?_
  obtain ⟨h1, h2⟩ := h
  refine cq_icmp (t := 80) dX3_addWords_10 (by decide) (d_ge hx4 hx2) (fun q => ?_) (fun q => ?_)
  · have h := h1 q
    exact h
  · have h := h2 (Int.not_le.mp q)
    refine cq_g (pc' := 15) (ls' := [some (.ref r0), some (.int (iI x1)), some (.int (iI x2)), some (.ref r3), some (.int (iI x4)), l5]) (st' := [.int (iI x4)]) dX3_addWords_13 (fun _ _ => rfl) ?_
    refine cq_g (pc' := 16) (ls' := [some (.ref r0), some (.int (iI x1)), some (.int (iI x2)), some (.ref r3), some (.int (iI x4)), l5]) (st' := [.ref r0, .int (iI x4)]) dX3_addWords_15 (fun _ _ => rfl) ?_
    obtain ⟨hK1, h⟩ := h
    refine cq_getI dX3_addWords_16 rfl (by decide) rfl (by unfold plK; decide) hK1 ?_
    obtain ⟨h1, h2⟩ := h
    refine cq_icmp (t := 80) dX3_addWords_19 (by decide) (d_ge hx4 (hRc.1 _ _)) (fun q => ?_) (fun q => ?_)
    · have h := h1 q
      exact h
    · have h := h2 (Int.not_le.mp q)
      refine cq_g (pc' := 24) (ls' := [some (.ref r0), some (.int (iI x1)), some (.int (iI x2)), some (.ref r3), some (.int (iI x4)), l5]) (st' := [.int (iI x4)]) dX3_addWords_22 (fun _ _ => rfl) ?_
      refine cq_g (pc' := 25) (ls' := [some (.ref r0), some (.int (iI x1)), some (.int (iI x2)), some (.ref r3), some (.int (iI x4)), l5]) (st' := [.int (iI x1), .int (iI x4)]) dX3_addWords_24 (fun _ _ => rfl) ?_
      obtain ⟨h1, h2⟩ := h
      refine cq_icmp (t := 34) dX3_addWords_25 (by decide) (d_le hx4 hx1) (fun q => ?_) (fun q => ?_)
      · have h := h1 q
        exact h
      · have h := h2 (Int.not_le.mp q)
        refine cq_g (pc' := 29) (ls' := [some (.ref r0), some (.int (iI x1)), some (.int (iI x2)), some (.ref r3), some (.int (iI x4)), l5]) (st' := [.ref r3]) dX3_addWords_28 (fun _ _ => rfl) ?_
        refine cq_bi dX3_addWords_29 (by decide) ?_
        obtain ⟨hK2, hx3, hl4, h⟩ := h
        refine cq_call (th := false) (rest := []) (ls2 := [some (.ref r3), some (.int (iI 32)), none]) (pc' := 34) dX3_addWords_31 (fun _ _ => ex_calV rfl (by decide)) rfl (Nat.le_of_ble_eq_true rfl) (Nat.le_of_ble_eq_true rfl) (Nat.le_of_ble_eq_true rfl) (cr_rcv rfl rfl (by decide) hK2) rfl rfl rfl (fun q => nomatch q) (t57 hK2 hx3 hl4 ?_)
        show CW g B O 34 34 [some (.ref r0), some (.int (iI x1)), some (.int (iI x2)), some (.ref r3), some (.int (iI x4)), l5] [] (wT c r3 (yT c r3 ++ [32])) Q
        generalize ed5 : wT c r3 (yT c r3 ++ [32]) = d5
        replace h := h _ ed5.symm
        refine cq_R (fun hRd5 => ?_)
        exact h
theorem c34_34 {c : CS} {Q : Rs → CS → Prop} {r0 : Nat} {x1 : Int} {x2 : Int} {r3 : Nat} {x4 : Int} {l5 : Option Value}
    (h : yK c r0 = 5 ∧ ∃ b2, yP c r0 1 = some b2 ∧ (yK c b2 = 101 ∧ ((0 : Int) ≤ x4 ∧ x4 < yI c b2 (-1)) ∧ CW g B O 34 43 [some (.ref r0), some (.int (iI x1)), some (.int (iI x2)), some (.ref r3), some (.int (iI x4)), some (.int (iI (yI c b2 x4)))] [] c Q)) (hx1 : (-2147483648 : Int) ≤ x1 ∧ x1 ≤ 2147483647 := by omega) (hx2 : (-2147483648 : Int) ≤ x2 ∧ x2 ≤ 2147483647 := by omega) (hx4 : (-2147483648 : Int) ≤ x4 ∧ x4 ≤ 2147483647 := by omega) :
    CW g B O 34 34 [some (.ref r0), some (.int (iI x1)), some (.int (iI x2)), some (.ref r3), some (.int (iI x4)), l5] [] c Q := by
  refine cq_R (fun hRc => ?_)
  refine cq_g (pc' := 35) (ls' := [some (.ref r0), some (.int (iI x1)), some (.int (iI x2)), some (.ref r3), some (.int (iI x4)), l5]) (st' := [.ref r0]) dX3_addWords_34 (fun _ _ => rfl) ?_
  obtain ⟨hK1, b2, hP, h⟩ := h
  refine cq_getP dX3_addWords_35 rfl (by decide) rfl (by unfold plK; decide) hK1 hP ?_
  refine cq_g (pc' := 40) (ls' := [some (.ref r0), some (.int (iI x1)), some (.int (iI x2)), some (.ref r3), some (.int (iI x4)), l5]) (st' := [.int (iI x4), .ref b2]) dX3_addWords_38 (fun _ _ => rfl) ?_
  obtain ⟨hK4, hx3, h⟩ := h
  refine cq_iald dX3_addWords_40 hK4 hx3 ?_
  refine cq_g (pc' := 43) (ls' := [some (.ref r0), some (.int (iI x1)), some (.int (iI x2)), some (.ref r3), some (.int (iI x4)), some (.int (iI (yI c b2 x4)))]) (st' := []) dX3_addWords_41 (fun _ _ => rfl) ?_
  exact h
theorem c34_43 {c : CS} {Q : Rs → CS → Prop} {r0 : Nat} {x1 : Int} {x2 : Int} {r3 : Nat} {x4 : Int} {x5 : Int}
    (h : yK c r0 = 5 ∧ ∃ b2, yP c r0 2 = some b2 ∧ (yK c b2 = 101 ∧ ((0 : Int) ≤ x4 ∧ x4 < yI c b2 (-1)) ∧ (yI c b2 x4 ≤ x5 → ((-2147483648 : Int) ≤ x4 + 1 ∧ x4 + 1 ≤ 2147483647) ∧ CW g B O 34 7 [some (.ref r0), some (.int (iI x1)), some (.int (iI x2)), some (.ref r3), some (.int (iI (x4 + 1))), some (.int (iI x5))] [] c Q) ∧ (x5 < yI c b2 x4 → yK c r0 = 5 ∧ ∃ b7, yP c r0 0 = some b7 ∧ (yK c b7 = 7 ∧ yK c r3 = 7 ∧ ((0 : Int) ≤ sg (yT c b7) x5 ∧ sg (yT c b7) x5 ≤ 65535) ∧ (yT c r3).length < 1024 ∧ (∀ d12, d12 = wT c r3 (yT c r3 ++ [sg (yT c b7) x5]) → ((-2147483648 : Int) ≤ x5 + 1 ∧ x5 + 1 ≤ 2147483647) ∧ CW g B O 34 43 [some (.ref r0), some (.int (iI x1)), some (.int (iI x2)), some (.ref r3), some (.int (iI x4)), some (.int (iI (x5 + 1)))] [] d12 Q))))) (hx1 : (-2147483648 : Int) ≤ x1 ∧ x1 ≤ 2147483647 := by omega) (hx2 : (-2147483648 : Int) ≤ x2 ∧ x2 ≤ 2147483647 := by omega) (hx4 : (-2147483648 : Int) ≤ x4 ∧ x4 ≤ 2147483647 := by omega) (hx5 : (-2147483648 : Int) ≤ x5 ∧ x5 ≤ 2147483647 := by omega) :
    CW g B O 34 43 [some (.ref r0), some (.int (iI x1)), some (.int (iI x2)), some (.ref r3), some (.int (iI x4)), some (.int (iI x5))] [] c Q := by
  refine cq_R (fun hRc => ?_)
  refine cq_g (pc' := 45) (ls' := [some (.ref r0), some (.int (iI x1)), some (.int (iI x2)), some (.ref r3), some (.int (iI x4)), some (.int (iI x5))]) (st' := [.int (iI x5)]) dX3_addWords_43 (fun _ _ => rfl) ?_
  refine cq_g (pc' := 46) (ls' := [some (.ref r0), some (.int (iI x1)), some (.int (iI x2)), some (.ref r3), some (.int (iI x4)), some (.int (iI x5))]) (st' := [.ref r0, .int (iI x5)]) dX3_addWords_45 (fun _ _ => rfl) ?_
  obtain ⟨hK1, b2, hP, h⟩ := h
  refine cq_getP dX3_addWords_46 rfl (by decide) rfl (by unfold plK; decide) hK1 hP ?_
  refine cq_g (pc' := 51) (ls' := [some (.ref r0), some (.int (iI x1)), some (.int (iI x2)), some (.ref r3), some (.int (iI x4)), some (.int (iI x5))]) (st' := [.int (iI x4), .ref b2, .int (iI x5)]) dX3_addWords_49 (fun _ _ => rfl) ?_
  obtain ⟨hK4, hx3, h⟩ := h
  refine cq_iald dX3_addWords_51 hK4 hx3 ?_
  obtain ⟨h1, h2⟩ := h
  refine cq_icmp (t := 74) dX3_addWords_52 (by decide) (d_ge hx5 (hRc.1 _ _)) (fun q => ?_) (fun q => ?_)
  · have h := h1 q
    obtain ⟨hr5, h⟩ := h
    refine cq_inc (ls' := [some (.ref r0), some (.int (iI x1)), some (.int (iI x2)), some (.ref r3), some (.int (iI (x4 + 1))), some (.int (iI x5))]) dX3_addWords_74 rfl (Nat.le_of_ble_eq_true rfl) rfl ?_
    refine cq_goto (t := 7) dX3_addWords_77 (by decide) ?_
    exact h
  · have h := h2 (Int.not_le.mp q)
    refine cq_g (pc' := 56) (ls' := [some (.ref r0), some (.int (iI x1)), some (.int (iI x2)), some (.ref r3), some (.int (iI x4)), some (.int (iI x5))]) (st' := [.ref r3]) dX3_addWords_55 (fun _ _ => rfl) ?_
    refine cq_g (pc' := 57) (ls' := [some (.ref r0), some (.int (iI x1)), some (.int (iI x2)), some (.ref r3), some (.int (iI x4)), some (.int (iI x5))]) (st' := [.ref r0, .ref r3]) dX3_addWords_56 (fun _ _ => rfl) ?_
    obtain ⟨hK6, b7, hP, h⟩ := h
    refine cq_getP dX3_addWords_57 rfl (by decide) rfl (by unfold plK; decide) hK6 hP ?_
    refine cq_g (pc' := 62) (ls' := [some (.ref r0), some (.int (iI x1)), some (.int (iI x2)), some (.ref r3), some (.int (iI x4)), some (.int (iI x5))]) (st' := [.int (iI x5), .ref b7, .ref r3]) dX3_addWords_60 (fun _ _ => rfl) ?_
    obtain ⟨hK8, h⟩ := h
    refine cq_call (th := false) (rest := [.ref r3]) (ls2 := [some (.ref b7), some (.int (iI x5))]) (pc' := 65) dX3_addWords_62 (fun _ _ => ex_calV rfl (by decide)) rfl (Nat.le_of_ble_eq_true rfl) (Nat.le_of_ble_eq_true rfl) (Nat.le_of_ble_eq_true rfl) (cr_rcv rfl rfl (by decide) hK8) rfl rfl rfl (fun q => nomatch q) (t56 hK8 hx5 ?_)
    show CW g B O 34 65 [some (.ref r0), some (.int (iI x1)), some (.int (iI x2)), some (.ref r3), some (.int (iI x4)), some (.int (iI x5))] [.int (iI (sg (yT c b7) x5)), .ref r3] c Q
    obtain ⟨hK9, hx10, hl11, h⟩ := h
    refine cq_call (th := false) (rest := []) (ls2 := [some (.ref r3), some (.int (iI (sg (yT c b7) x5))), none]) (pc' := 68) dX3_addWords_65 (fun _ _ => ex_calV rfl (by decide)) rfl (Nat.le_of_ble_eq_true rfl) (Nat.le_of_ble_eq_true rfl) (Nat.le_of_ble_eq_true rfl) (cr_rcv rfl rfl (by decide) hK9) rfl rfl rfl (fun q => nomatch q) (t57 hK9 hx10 hl11 ?_)
    show CW g B O 34 68 [some (.ref r0), some (.int (iI x1)), some (.int (iI x2)), some (.ref r3), some (.int (iI x4)), some (.int (iI x5))] [] (wT c r3 (yT c r3 ++ [sg (yT c b7) x5])) Q
    generalize ed12 : wT c r3 (yT c r3 ++ [sg (yT c b7) x5]) = d12
    replace h := h _ ed12.symm
    refine cq_R (fun hRd12 => ?_)
    obtain ⟨hr13, h⟩ := h
    refine cq_inc (ls' := [some (.ref r0), some (.int (iI x1)), some (.int (iI x2)), some (.ref r3), some (.int (iI x4)), some (.int (iI (x5 + 1)))]) dX3_addWords_68 rfl (Nat.le_of_ble_eq_true rfl) rfl ?_
    refine cq_goto (t := 43) dX3_addWords_71 (by decide) ?_
    exact h
theorem c34_80 {c : CS} {Q : Rs → CS → Prop} {l0 : Option Value} {l1 : Option Value} {l2 : Option Value} {l3 : Option Value} {l4 : Option Value} {l5 : Option Value}
    (h : Q (Sum.inl none) c)  :
    CW g B O 34 80 [l0, l1, l2, l3, l4, l5] [] c Q := by
  refine cq_R (fun hRc => ?_)
  exact cq_vret dX3_addWords_80 rfl h
theorem c35_0 {c : CS} {Q : Rs → CS → Prop} {r0 : Nat} {r1 : Nat} {l2 : Option Value} {l3 : Option Value}
    (h : CW g B O 35 2 [some (.ref r0), some (.ref r1), some (.int (iI 0)), l3] [] c Q)  :
    CW g B O 35 0 [some (.ref r0), some (.ref r1), l2, l3] [] c Q := by
  refine cq_R (fun hRc => ?_)
  refine cq_ic dX3_addOrder_0 ?_
  refine cq_g (pc' := 2) (ls' := [some (.ref r0), some (.ref r1), some (.int (iI 0)), l3]) (st' := []) dX3_addOrder_1 (fun _ _ => rfl) ?_
  exact h
theorem c35_2 {c : CS} {Q : Rs → CS → Prop} {r0 : Nat} {r1 : Nat} {x2 : Int} {l3 : Option Value}
    (h : yK c r0 = 5 ∧ (yI c r0 6 ≤ x2 → yK c r1 = 7 ∧ ((0 : Int) ≤ 0 ∧ (0 : Int) ≤ 65535) ∧ (yT c r1).length < 1024 ∧ (∀ d5, d5 = wT c r1 (yT c r1 ++ [0]) → Q (Sum.inl none) d5)) ∧ (x2 < yI c r0 6 → yK c r0 = 5 ∧ CW g B O 29 0 [some (.ref r0), some (.int (iI x2))] [] c (CK g B O 35 15 [some (.ref r0), some (.ref r1), some (.int (iI x2)), l3] [] Q false))) (hx2 : (-2147483648 : Int) ≤ x2 ∧ x2 ≤ 2147483647 := by omega) :
    CW g B O 35 2 [some (.ref r0), some (.ref r1), some (.int (iI x2)), l3] [] c Q := by
  refine cq_R (fun hRc => ?_)
  refine cq_g (pc' := 3) (ls' := [some (.ref r0), some (.ref r1), some (.int (iI x2)), l3]) (st' := [.int (iI x2)]) dX3_addOrder_2 (fun _ _ => rfl) ?_
  refine cq_g (pc' := 4) (ls' := [some (.ref r0), some (.ref r1), some (.int (iI x2)), l3]) (st' := [.ref r0, .int (iI x2)]) dX3_addOrder_3 (fun _ _ => rfl) ?_
  obtain ⟨hK1, h⟩ := h
  refine cq_getI dX3_addOrder_4 rfl (by decide) rfl (by unfold plK; decide) hK1 ?_
  obtain ⟨h1, h2⟩ := h
  refine cq_icmp (t := 76) dX3_addOrder_7 (by decide) (d_ge hx2 (hRc.1 _ _)) (fun q => ?_) (fun q => ?_)
  · have h := h1 q
    refine cq_g (pc' := 77) (ls' := [some (.ref r0), some (.ref r1), some (.int (iI x2)), l3]) (st' := [.ref r1]) dX3_addOrder_76 (fun _ _ => rfl) ?_
    refine cq_ic dX3_addOrder_77 ?_
    obtain ⟨hK2, hx3, hl4, h⟩ := h
    refine cq_call (th := false) (rest := []) (ls2 := [some (.ref r1), some (.int (iI 0)), none]) (pc' := 81) dX3_addOrder_78 (fun _ _ => ex_calV rfl (by decide)) rfl (Nat.le_of_ble_eq_true rfl) (Nat.le_of_ble_eq_true rfl) (Nat.le_of_ble_eq_true rfl) (cr_rcv rfl rfl (by decide) hK2) rfl rfl rfl (fun q => nomatch q) (t57 hK2 hx3 hl4 ?_)
    show CW g B O 35 81 [some (.ref r0), some (.ref r1), some (.int (iI x2)), l3] [] (wT c r1 (yT c r1 ++ [0])) Q
    generalize ed5 : wT c r1 (yT c r1 ++ [0]) = d5
    replace h := h _ ed5.symm
    refine cq_R (fun hRd5 => ?_)
    exact cq_vret dX3_addOrder_81 rfl h
  · have h := h2 (Int.not_le.mp q)
    refine cq_g (pc' := 11) (ls' := [some (.ref r0), some (.ref r1), some (.int (iI x2)), l3]) (st' := [.ref r0]) dX3_addOrder_10 (fun _ _ => rfl) ?_
    refine cq_g (pc' := 12) (ls' := [some (.ref r0), some (.ref r1), some (.int (iI x2)), l3]) (st' := [.int (iI x2), .ref r0]) dX3_addOrder_11 (fun _ _ => rfl) ?_
    obtain ⟨hK6, h⟩ := h
    exact cq_call (th := false) (rest := []) (ls2 := [some (.ref r0), some (.int (iI x2))]) (pc' := 15) dX3_addOrder_12 (fun _ _ => ex_calV rfl (by decide)) rfl (Nat.le_of_ble_eq_true rfl) (Nat.le_of_ble_eq_true rfl) (Nat.le_of_ble_eq_true rfl) (cr_rcv rfl rfl (by decide) hK6) rfl rfl rfl (fun q => nomatch q) h
theorem c35_15 {c : CS} {Q : Rs → CS → Prop} {r0 : Nat} {r1 : Nat} {x2 : Int} {l3 : Option Value} {w0 : Nat}
    (h : yK c w0 = 4 ∧ yK c w0 = 4 ∧ yK c r0 = 5 ∧ CW g B O 34 0 [some (.ref r0), some (.int (iI (yI c w0 3))), some (.int (iI (yI c w0 4))), some (.ref r1), none, none] [] c (CK g B O 35 29 [some (.ref r0), some (.ref r1), some (.int (iI x2)), some (.ref w0)] [] Q false)) (hx2 : (-2147483648 : Int) ≤ x2 ∧ x2 ≤ 2147483647 := by omega) :
    CW g B O 35 15 [some (.ref r0), some (.ref r1), some (.int (iI x2)), l3] [.ref w0] c Q := by
  refine cq_R (fun hRc => ?_)
  refine cq_g (pc' := 16) (ls' := [some (.ref r0), some (.ref r1), some (.int (iI x2)), some (.ref w0)]) (st' := []) dX3_addOrder_15 (fun _ _ => rfl) ?_
  refine cq_g (pc' := 17) (ls' := [some (.ref r0), some (.ref r1), some (.int (iI x2)), some (.ref w0)]) (st' := [.ref r0]) dX3_addOrder_16 (fun _ _ => rfl) ?_
  refine cq_g (pc' := 18) (ls' := [some (.ref r0), some (.ref r1), some (.int (iI x2)), some (.ref w0)]) (st' := [.ref w0, .ref r0]) dX3_addOrder_17 (fun _ _ => rfl) ?_
  obtain ⟨hK1, h⟩ := h
  refine cq_getI dX3_addOrder_18 rfl (by decide) rfl (by unfold plK; decide) hK1 ?_
  refine cq_g (pc' := 22) (ls' := [some (.ref r0), some (.ref r1), some (.int (iI x2)), some (.ref w0)]) (st' := [.ref w0, .int (iI (yI c w0 3)), .ref r0]) dX3_addOrder_21 (fun _ _ => rfl) ?_
  obtain ⟨hK2, h⟩ := h
  refine cq_getI dX3_addOrder_22 rfl (by decide) rfl (by unfold plK; decide) hK2 ?_
  refine cq_g (pc' := 26) (ls' := [some (.ref r0), some (.ref r1), some (.int (iI x2)), some (.ref w0)]) (st' := [.ref r1, .int (iI (yI c w0 4)), .int (iI (yI c w0 3)), .ref r0]) dX3_addOrder_25 (fun _ _ => rfl) ?_
  obtain ⟨hK3, h⟩ := h
  exact cq_call (th := false) (rest := []) (ls2 := [some (.ref r0), some (.int (iI (yI c w0 3))), some (.int (iI (yI c w0 4))), some (.ref r1), none, none]) (pc' := 29) dX3_addOrder_26 (fun _ _ => ex_calV rfl (by decide)) rfl (Nat.le_of_ble_eq_true rfl) (Nat.le_of_ble_eq_true rfl) (Nat.le_of_ble_eq_true rfl) (cr_rcv rfl rfl (by decide) hK3) rfl rfl rfl (fun q => nomatch q) h
theorem c35_29 {c : CS} {Q : Rs → CS → Prop} {r0 : Nat} {r1 : Nat} {x2 : Int} {r3 : Nat}
    (h : yK c r1 = 7 ∧ ((0 : Int) ≤ 1 ∧ (1 : Int) ≤ 65535) ∧ (yT c r1).length < 1024 ∧ (∀ d4, d4 = wT c r1 (yT c r1 ++ [1]) → yK d4 r3 = 4 ∧ yK d4 r3 = 4 ∧ yK d4 r0 = 5 ∧ CW g B O 34 0 [some (.ref r0), some (.int (iI (yI d4 r3 0))), some (.int (iI (yI d4 r3 1))), some (.ref r1), none, none] [] d4 (CK g B O 35 47 [some (.ref r0), some (.ref r1), some (.int (iI x2)), some (.ref r3)] [] Q false))) (hx2 : (-2147483648 : Int) ≤ x2 ∧ x2 ≤ 2147483647 := by omega) :
    CW g B O 35 29 [some (.ref r0), some (.ref r1), some (.int (iI x2)), some (.ref r3)] [] c Q := by
  refine cq_R (fun hRc => ?_)
  refine cq_g (pc' := 30) (ls' := [some (.ref r0), some (.ref r1), some (.int (iI x2)), some (.ref r3)]) (st' := [.ref r1]) dX3_addOrder_29 (fun _ _ => rfl) ?_
  refine cq_ic dX3_addOrder_30 ?_
  obtain ⟨hK1, hx2, hl3, h⟩ := h
  refine cq_call (th := false) (rest := []) (ls2 := [some (.ref r1), some (.int (iI 1)), none]) (pc' := 34) dX3_addOrder_31 (fun _ _ => ex_calV rfl (by decide)) rfl (Nat.le_of_ble_eq_true rfl) (Nat.le_of_ble_eq_true rfl) (Nat.le_of_ble_eq_true rfl) (cr_rcv rfl rfl (by decide) hK1) rfl rfl rfl (fun q => nomatch q) (t57 hK1 hx2 hl3 ?_)
  show CW g B O 35 34 [some (.ref r0), some (.ref r1), some (.int (iI x2)), some (.ref r3)] [] (wT c r1 (yT c r1 ++ [1])) Q
  generalize ed4 : wT c r1 (yT c r1 ++ [1]) = d4
  replace h := h _ ed4.symm
  refine cq_R (fun hRd4 => ?_)
  refine cq_g (pc' := 35) (ls' := [some (.ref r0), some (.ref r1), some (.int (iI x2)), some (.ref r3)]) (st' := [.ref r0]) dX3_addOrder_34 (fun _ _ => rfl) ?_
  refine cq_g (pc' := 36) (ls' := [some (.ref r0), some (.ref r1), some (.int (iI x2)), some (.ref r3)]) (st' := [.ref r3, .ref r0]) dX3_addOrder_35 (fun _ _ => rfl) ?_
  obtain ⟨hK5, h⟩ := h
  refine cq_getI dX3_addOrder_36 rfl (by decide) rfl (by unfold plK; decide) hK5 ?_
  refine cq_g (pc' := 40) (ls' := [some (.ref r0), some (.ref r1), some (.int (iI x2)), some (.ref r3)]) (st' := [.ref r3, .int (iI (yI d4 r3 0)), .ref r0]) dX3_addOrder_39 (fun _ _ => rfl) ?_
  obtain ⟨hK6, h⟩ := h
  refine cq_getI dX3_addOrder_40 rfl (by decide) rfl (by unfold plK; decide) hK6 ?_
  refine cq_g (pc' := 44) (ls' := [some (.ref r0), some (.ref r1), some (.int (iI x2)), some (.ref r3)]) (st' := [.ref r1, .int (iI (yI d4 r3 1)), .int (iI (yI d4 r3 0)), .ref r0]) dX3_addOrder_43 (fun _ _ => rfl) ?_
  obtain ⟨hK7, h⟩ := h
  exact cq_call (th := false) (rest := []) (ls2 := [some (.ref r0), some (.int (iI (yI d4 r3 0))), some (.int (iI (yI d4 r3 1))), some (.ref r1), none, none]) (pc' := 47) dX3_addOrder_44 (fun _ _ => ex_calV rfl (by decide)) rfl (Nat.le_of_ble_eq_true rfl) (Nat.le_of_ble_eq_true rfl) (Nat.le_of_ble_eq_true rfl) (cr_rcv rfl rfl (by decide) hK7) rfl rfl rfl (fun q => nomatch q) h
theorem c35_47 {c : CS} {Q : Rs → CS → Prop} {r0 : Nat} {r1 : Nat} {x2 : Int} {r3 : Nat}
    (h : yK c r1 = 7 ∧ ((0 : Int) ≤ 1 ∧ (1 : Int) ≤ 65535) ∧ (yT c r1).length < 1024 ∧ (∀ d4, d4 = wT c r1 (yT c r1 ++ [1]) → yK d4 r3 = 4 ∧ yK d4 r3 = 4 ∧ yK d4 r0 = 5 ∧ CW g B O 34 0 [some (.ref r0), some (.int (iI (yI d4 r3 2))), some (.int (iI (yI d4 r3 3))), some (.ref r1), none, none] [] d4 (CK g B O 35 65 [some (.ref r0), some (.ref r1), some (.int (iI x2)), some (.ref r3)] [] Q false))) (hx2 : (-2147483648 : Int) ≤ x2 ∧ x2 ≤ 2147483647 := by omega) :
    CW g B O 35 47 [some (.ref r0), some (.ref r1), some (.int (iI x2)), some (.ref r3)] [] c Q := by
  refine cq_R (fun hRc => ?_)
  refine cq_g (pc' := 48) (ls' := [some (.ref r0), some (.ref r1), some (.int (iI x2)), some (.ref r3)]) (st' := [.ref r1]) dX3_addOrder_47 (fun _ _ => rfl) ?_
  refine cq_ic dX3_addOrder_48 ?_
  obtain ⟨hK1, hx2, hl3, h⟩ := h
  refine cq_call (th := false) (rest := []) (ls2 := [some (.ref r1), some (.int (iI 1)), none]) (pc' := 52) dX3_addOrder_49 (fun _ _ => ex_calV rfl (by decide)) rfl (Nat.le_of_ble_eq_true rfl) (Nat.le_of_ble_eq_true rfl) (Nat.le_of_ble_eq_true rfl) (cr_rcv rfl rfl (by decide) hK1) rfl rfl rfl (fun q => nomatch q) (t57 hK1 hx2 hl3 ?_)
  show CW g B O 35 52 [some (.ref r0), some (.ref r1), some (.int (iI x2)), some (.ref r3)] [] (wT c r1 (yT c r1 ++ [1])) Q
  generalize ed4 : wT c r1 (yT c r1 ++ [1]) = d4
  replace h := h _ ed4.symm
  refine cq_R (fun hRd4 => ?_)
  refine cq_g (pc' := 53) (ls' := [some (.ref r0), some (.ref r1), some (.int (iI x2)), some (.ref r3)]) (st' := [.ref r0]) dX3_addOrder_52 (fun _ _ => rfl) ?_
  refine cq_g (pc' := 54) (ls' := [some (.ref r0), some (.ref r1), some (.int (iI x2)), some (.ref r3)]) (st' := [.ref r3, .ref r0]) dX3_addOrder_53 (fun _ _ => rfl) ?_
  obtain ⟨hK5, h⟩ := h
  refine cq_getI dX3_addOrder_54 rfl (by decide) rfl (by unfold plK; decide) hK5 ?_
  refine cq_g (pc' := 58) (ls' := [some (.ref r0), some (.ref r1), some (.int (iI x2)), some (.ref r3)]) (st' := [.ref r3, .int (iI (yI d4 r3 2)), .ref r0]) dX3_addOrder_57 (fun _ _ => rfl) ?_
  obtain ⟨hK6, h⟩ := h
  refine cq_getI dX3_addOrder_58 rfl (by decide) rfl (by unfold plK; decide) hK6 ?_
  refine cq_g (pc' := 62) (ls' := [some (.ref r0), some (.ref r1), some (.int (iI x2)), some (.ref r3)]) (st' := [.ref r1, .int (iI (yI d4 r3 3)), .int (iI (yI d4 r3 2)), .ref r0]) dX3_addOrder_61 (fun _ _ => rfl) ?_
  obtain ⟨hK7, h⟩ := h
  exact cq_call (th := false) (rest := []) (ls2 := [some (.ref r0), some (.int (iI (yI d4 r3 2))), some (.int (iI (yI d4 r3 3))), some (.ref r1), none, none]) (pc' := 65) dX3_addOrder_62 (fun _ _ => ex_calV rfl (by decide)) rfl (Nat.le_of_ble_eq_true rfl) (Nat.le_of_ble_eq_true rfl) (Nat.le_of_ble_eq_true rfl) (cr_rcv rfl rfl (by decide) hK7) rfl rfl rfl (fun q => nomatch q) h
theorem c35_65 {c : CS} {Q : Rs → CS → Prop} {r0 : Nat} {r1 : Nat} {x2 : Int} {l3 : Option Value}
    (h : yK c r1 = 7 ∧ ((0 : Int) ≤ 1 ∧ (1 : Int) ≤ 65535) ∧ (yT c r1).length < 1024 ∧ (∀ d4, d4 = wT c r1 (yT c r1 ++ [1]) → ((-2147483648 : Int) ≤ x2 + 1 ∧ x2 + 1 ≤ 2147483647) ∧ CW g B O 35 2 [some (.ref r0), some (.ref r1), some (.int (iI (x2 + 1))), l3] [] d4 Q)) (hx2 : (-2147483648 : Int) ≤ x2 ∧ x2 ≤ 2147483647 := by omega) :
    CW g B O 35 65 [some (.ref r0), some (.ref r1), some (.int (iI x2)), l3] [] c Q := by
  refine cq_R (fun hRc => ?_)
  refine cq_g (pc' := 66) (ls' := [some (.ref r0), some (.ref r1), some (.int (iI x2)), l3]) (st' := [.ref r1]) dX3_addOrder_65 (fun _ _ => rfl) ?_
  refine cq_ic dX3_addOrder_66 ?_
  obtain ⟨hK1, hx2, hl3, h⟩ := h
  refine cq_call (th := false) (rest := []) (ls2 := [some (.ref r1), some (.int (iI 1)), none]) (pc' := 70) dX3_addOrder_67 (fun _ _ => ex_calV rfl (by decide)) rfl (Nat.le_of_ble_eq_true rfl) (Nat.le_of_ble_eq_true rfl) (Nat.le_of_ble_eq_true rfl) (cr_rcv rfl rfl (by decide) hK1) rfl rfl rfl (fun q => nomatch q) (t57 hK1 hx2 hl3 ?_)
  show CW g B O 35 70 [some (.ref r0), some (.ref r1), some (.int (iI x2)), l3] [] (wT c r1 (yT c r1 ++ [1])) Q
  generalize ed4 : wT c r1 (yT c r1 ++ [1]) = d4
  replace h := h _ ed4.symm
  refine cq_R (fun hRd4 => ?_)
  obtain ⟨hr5, h⟩ := h
  refine cq_inc (ls' := [some (.ref r0), some (.ref r1), some (.int (iI (x2 + 1))), l3]) dX3_addOrder_70 rfl (Nat.le_of_ble_eq_true rfl) rfl ?_
  refine cq_goto (t := 2) dX3_addOrder_73 (by decide) ?_
  exact h
theorem c36_0 {c : CS} {Q : Rs → CS → Prop} {r0 : Nat} {r1 : Nat} {l2 : Option Value} {l3 : Option Value}
    (h : yK c r0 = 5 ∧ (yI c r0 6 ≤ 3 → yK c r0 = 5 ∧ CW g B O 36 16 [some (.ref r0), some (.ref r1), l2, l3] [.int (iI (yI c r0 6))] c Q) ∧ (3 < yI c r0 6 → CW g B O 36 16 [some (.ref r0), some (.ref r1), l2, l3] [.int (iI 1)] c Q))  :
    CW g B O 36 0 [some (.ref r0), some (.ref r1), l2, l3] [] c Q := by
  refine cq_R (fun hRc => ?_)
  refine cq_g (pc' := 1) (ls' := [some (.ref r0), some (.ref r1), l2, l3]) (st' := [.ref r0]) dX3_addPiece_0 (fun _ _ => rfl) ?_
  obtain ⟨hK1, h⟩ := h
  refine cq_getI dX3_addPiece_1 rfl (by decide) rfl (by unfold plK; decide) hK1 ?_
  refine cq_ic dX3_addPiece_4 ?_
  obtain ⟨h1, h2⟩ := h
  refine cq_icmp (t := 12) dX3_addPiece_5 (by decide) (d_le (hRc.1 _ _) (by decide)) (fun q => ?_) (fun q => ?_)
  · have h := h1 q
    refine cq_g (pc' := 13) (ls' := [some (.ref r0), some (.ref r1), l2, l3]) (st' := [.ref r0]) dX3_addPiece_12 (fun _ _ => rfl) ?_
    obtain ⟨hK2, h⟩ := h
    refine cq_getI dX3_addPiece_13 rfl (by decide) rfl (by unfold plK; decide) hK2 ?_
    exact h
  · have h := h2 (Int.not_le.mp q)
    refine cq_ic dX3_addPiece_8 ?_
    refine cq_goto (t := 16) dX3_addPiece_9 (by decide) ?_
    exact h
theorem c36_16 {c : CS} {Q : Rs → CS → Prop} {r0 : Nat} {r1 : Nat} {l2 : Option Value} {l3 : Option Value} {u0 : Int}
    (h : CW g B O 36 19 [some (.ref r0), some (.ref r1), some (.int (iI u0)), some (.int (iI 0))] [] c Q) (hu0 : (-2147483648 : Int) ≤ u0 ∧ u0 ≤ 2147483647 := by omega) :
    CW g B O 36 16 [some (.ref r0), some (.ref r1), l2, l3] [.int (iI u0)] c Q := by
  refine cq_R (fun hRc => ?_)
  refine cq_g (pc' := 17) (ls' := [some (.ref r0), some (.ref r1), some (.int (iI u0)), l3]) (st' := []) dX3_addPiece_16 (fun _ _ => rfl) ?_
  refine cq_ic dX3_addPiece_17 ?_
  refine cq_g (pc' := 19) (ls' := [some (.ref r0), some (.ref r1), some (.int (iI u0)), some (.int (iI 0))]) (st' := []) dX3_addPiece_18 (fun _ _ => rfl) ?_
  exact h
theorem c36_19 {c : CS} {Q : Rs → CS → Prop} {r0 : Nat} {r1 : Nat} {x2 : Int} {x3 : Int}
    (h : (x2 ≤ x3 → yK c r0 = 5 ∧ (yI c r0 6 ≤ x2 → CW g B O 36 92 [some (.ref r0), some (.ref r1), some (.int (iI x2)), some (.int (iI x3))] [] c Q) ∧ (x2 < yI c r0 6 → yK c r1 = 7 ∧ 2 < 10 ∧ (yT c r1).length + (tx 2).length ≤ 1024 ∧ (∀ d5, d5 = wT c r1 (yT c r1 ++ tx 2) → CW g B O 36 92 [some (.ref r0), some (.ref r1), some (.int (iI x2)), some (.int (iI x3))] [] d5 Q))) ∧ (x3 < x2 → (x3 ≤ 0 → CW g B O 36 46 [some (.ref r0), some (.ref r1), some (.int (iI x2)), some (.int (iI x3))] [] c Q) ∧ (0 < x3 → ((-2147483648 : Int) ≤ x2 - 1 ∧ x2 - 1 ≤ 2147483647) ∧ (¬ x3 = x2 - 1 → CW g B O 36 43 [some (.ref r0), some (.ref r1), some (.int (iI x2)), some (.int (iI x3))] [.ref (g (100 + 5)), .ref r1] c Q) ∧ (x3 = x2 - 1 → CW g B O 36 43 [some (.ref r0), some (.ref r1), some (.int (iI x2)), some (.int (iI x3))] [.ref (g (100 + 1)), .ref r1] c Q)))) (hx2 : (-2147483648 : Int) ≤ x2 ∧ x2 ≤ 2147483647 := by omega) (hx3 : (-2147483648 : Int) ≤ x3 ∧ x3 ≤ 2147483647 := by omega) :
    CW g B O 36 19 [some (.ref r0), some (.ref r1), some (.int (iI x2)), some (.int (iI x3))] [] c Q := by
  refine cq_R (fun hRc => ?_)
  refine cq_g (pc' := 20) (ls' := [some (.ref r0), some (.ref r1), some (.int (iI x2)), some (.int (iI x3))]) (st' := [.int (iI x3)]) dX3_addPiece_19 (fun _ _ => rfl) ?_
  refine cq_g (pc' := 21) (ls' := [some (.ref r0), some (.ref r1), some (.int (iI x2)), some (.int (iI x3))]) (st' := [.int (iI x2), .int (iI x3)]) dX3_addPiece_20 (fun _ _ => rfl) ?_
  obtain ⟨h1, h2⟩ := h
  refine cq_icmp (t := 78) dX3_addPiece_21 (by decide) (d_ge hx3 hx2) (fun q => ?_) (fun q => ?_)
  · have h := h1 q
    refine cq_g (pc' := 79) (ls' := [some (.ref r0), some (.ref r1), some (.int (iI x2)), some (.int (iI x3))]) (st' := [.int (iI x2)]) dX3_addPiece_78 (fun _ _ => rfl) ?_
    refine cq_g (pc' := 80) (ls' := [some (.ref r0), some (.ref r1), some (.int (iI x2)), some (.int (iI x3))]) (st' := [.ref r0, .int (iI x2)]) dX3_addPiece_79 (fun _ _ => rfl) ?_
    obtain ⟨hK1, h⟩ := h
    refine cq_getI dX3_addPiece_80 rfl (by decide) rfl (by unfold plK; decide) hK1 ?_
    obtain ⟨h1, h2⟩ := h
    refine cq_icmp (t := 92) dX3_addPiece_83 (by decide) (d_ge hx2 (hRc.1 _ _)) (fun q => ?_) (fun q => ?_)
    · have h := h1 q
      exact h
    · have h := h2 (Int.not_le.mp q)
      refine cq_g (pc' := 87) (ls' := [some (.ref r0), some (.ref r1), some (.int (iI x2)), some (.int (iI x3))]) (st' := [.ref r1]) dX3_addPiece_86 (fun _ _ => rfl) ?_
      refine cq_ldcS dX3_addPiece_87 rfl ?_
      obtain ⟨hK2, hj3, hl4, h⟩ := h
      refine cq_call (th := false) (rest := []) (ls2 := [some (.ref r1), some (.ref (g (100 + 2))), none]) (pc' := 92) dX3_addPiece_89 (fun _ _ => ex_calV rfl (by decide)) rfl (Nat.le_of_ble_eq_true rfl) (Nat.le_of_ble_eq_true rfl) (Nat.le_of_ble_eq_true rfl) (cr_rcv rfl rfl (by decide) hK2) rfl rfl rfl (fun q => nomatch q) (t59 hK2 hj3 hl4 ?_)
      show CW g B O 36 92 [some (.ref r0), some (.ref r1), some (.int (iI x2)), some (.int (iI x3))] [] (wT c r1 (yT c r1 ++ tx 2)) Q
      generalize ed5 : wT c r1 (yT c r1 ++ tx 2) = d5
      replace h := h _ ed5.symm
      refine cq_R (fun hRd5 => ?_)
      exact h
  · have h := h2 (Int.not_le.mp q)
    refine cq_g (pc' := 25) (ls' := [some (.ref r0), some (.ref r1), some (.int (iI x2)), some (.int (iI x3))]) (st' := [.int (iI x3)]) dX3_addPiece_24 (fun _ _ => rfl) ?_
    obtain ⟨h1, h2⟩ := h
    refine cq_if (t := 46) dX3_addPiece_25 (by decide) (d_le hx3 (by decide)) (fun q => ?_) (fun q => ?_)
    · have h := h1 q
      exact h
    · have h := h2 (Int.not_le.mp q)
      refine cq_g (pc' := 29) (ls' := [some (.ref r0), some (.ref r1), some (.int (iI x2)), some (.int (iI x3))]) (st' := [.ref r1]) dX3_addPiece_28 (fun _ _ => rfl) ?_
      refine cq_g (pc' := 30) (ls' := [some (.ref r0), some (.ref r1), some (.int (iI x2)), some (.int (iI x3))]) (st' := [.int (iI x3), .ref r1]) dX3_addPiece_29 (fun _ _ => rfl) ?_
      refine cq_g (pc' := 31) (ls' := [some (.ref r0), some (.ref r1), some (.int (iI x2)), some (.int (iI x3))]) (st' := [.int (iI x2), .int (iI x3), .ref r1]) dX3_addPiece_30 (fun _ _ => rfl) ?_
      refine cq_ic dX3_addPiece_31 ?_
      obtain ⟨hr6, h⟩ := h
      refine cq_sub dX3_addPiece_32 ?_
      obtain ⟨h1, h2⟩ := h
      refine cq_icmp (t := 41) dX3_addPiece_33 (by decide) (d_ne hx3 hr6) (fun q => ?_) (fun q => ?_)
      · have h := h1 q
        refine cq_ldcS dX3_addPiece_41 rfl ?_
        exact h
      · have h := h2 (Decidable.of_not_not q)
        refine cq_ldcS dX3_addPiece_36 rfl ?_
        refine cq_goto (t := 43) dX3_addPiece_38 (by decide) ?_
        exact h
theorem c36_43 {c : CS} {Q : Rs → CS → Prop} {r0 : Nat} {r1 : Nat} {x2 : Int} {x3 : Int} {js0 : Nat} {w1 : Nat}
    (h : yK c w1 = 7 ∧ js0 < 10 ∧ (yT c w1).length + (tx js0).length ≤ 1024 ∧ (∀ d4, d4 = wT c w1 (yT c w1 ++ tx js0) → CW g B O 36 46 [some (.ref r0), some (.ref r1), some (.int (iI x2)), some (.int (iI x3))] [] d4 Q)) (hx2 : (-2147483648 : Int) ≤ x2 ∧ x2 ≤ 2147483647 := by omega) (hx3 : (-2147483648 : Int) ≤ x3 ∧ x3 ≤ 2147483647 := by omega) :
    CW g B O 36 43 [some (.ref r0), some (.ref r1), some (.int (iI x2)), some (.int (iI x3))] [.ref (g (100 + js0)), .ref w1] c Q := by
  refine cq_R (fun hRc => ?_)
  obtain ⟨hK1, hj2, hl3, h⟩ := h
  refine cq_call (th := false) (rest := []) (ls2 := [some (.ref w1), some (.ref (g (100 + js0))), none]) (pc' := 46) dX3_addPiece_43 (fun _ _ => ex_calV rfl (by decide)) rfl (Nat.le_of_ble_eq_true rfl) (Nat.le_of_ble_eq_true rfl) (Nat.le_of_ble_eq_true rfl) (cr_rcv rfl rfl (by decide) hK1) rfl rfl rfl (fun q => nomatch q) (t59 hK1 hj2 hl3 ?_)
  show CW g B O 36 46 [some (.ref r0), some (.ref r1), some (.int (iI x2)), some (.int (iI x3))] [] (wT c w1 (yT c w1 ++ tx js0)) Q
  generalize ed4 : wT c w1 (yT c w1 ++ tx js0) = d4
  replace h := h _ ed4.symm
  refine cq_R (fun hRd4 => ?_)
  exact h
theorem c36_46 {c : CS} {Q : Rs → CS → Prop} {r0 : Nat} {r1 : Nat} {x2 : Int} {x3 : Int}
    (h : yK c r0 = 5 ∧ CW g B O 31 0 [some (.ref r0), some (.int (iI x3)), some (.ref r1)] [] c (CK g B O 36 52 [some (.ref r0), some (.ref r1), some (.int (iI x2)), some (.int (iI x3))] [] Q false)) (hx2 : (-2147483648 : Int) ≤ x2 ∧ x2 ≤ 2147483647 := by omega) (hx3 : (-2147483648 : Int) ≤ x3 ∧ x3 ≤ 2147483647 := by omega) :
    CW g B O 36 46 [some (.ref r0), some (.ref r1), some (.int (iI x2)), some (.int (iI x3))] [] c Q := by
  refine cq_R (fun hRc => ?_)
  refine cq_g (pc' := 47) (ls' := [some (.ref r0), some (.ref r1), some (.int (iI x2)), some (.int (iI x3))]) (st' := [.ref r0]) dX3_addPiece_46 (fun _ _ => rfl) ?_
  refine cq_g (pc' := 48) (ls' := [some (.ref r0), some (.ref r1), some (.int (iI x2)), some (.int (iI x3))]) (st' := [.int (iI x3), .ref r0]) dX3_addPiece_47 (fun _ _ => rfl) ?_
  refine cq_g (pc' := 49) (ls' := [some (.ref r0), some (.ref r1), some (.int (iI x2)), some (.int (iI x3))]) (st' := [.ref r1, .int (iI x3), .ref r0]) dX3_addPiece_48 (fun _ _ => rfl) ?_
  obtain ⟨hK1, h⟩ := h
  exact cq_call (th := false) (rest := []) (ls2 := [some (.ref r0), some (.int (iI x3)), some (.ref r1)]) (pc' := 52) dX3_addPiece_49 (fun _ _ => ex_calV rfl (by decide)) rfl (Nat.le_of_ble_eq_true rfl) (Nat.le_of_ble_eq_true rfl) (Nat.le_of_ble_eq_true rfl) (cr_rcv rfl rfl (by decide) hK1) rfl rfl rfl (fun q => nomatch q) h
theorem c36_52 {c : CS} {Q : Rs → CS → Prop} {r0 : Nat} {r1 : Nat} {x2 : Int} {x3 : Int}
    (h : yK c r0 = 5 ∧ CW g B O 30 0 [some (.ref r0), some (.int (iI x3))] [] c (CK g B O 36 57 [some (.ref r0), some (.ref r1), some (.int (iI x2)), some (.int (iI x3))] [] Q false)) (hx2 : (-2147483648 : Int) ≤ x2 ∧ x2 ≤ 2147483647 := by omega) (hx3 : (-2147483648 : Int) ≤ x3 ∧ x3 ≤ 2147483647 := by omega) :
    CW g B O 36 52 [some (.ref r0), some (.ref r1), some (.int (iI x2)), some (.int (iI x3))] [] c Q := by
  refine cq_R (fun hRc => ?_)
  refine cq_g (pc' := 53) (ls' := [some (.ref r0), some (.ref r1), some (.int (iI x2)), some (.int (iI x3))]) (st' := [.ref r0]) dX3_addPiece_52 (fun _ _ => rfl) ?_
  refine cq_g (pc' := 54) (ls' := [some (.ref r0), some (.ref r1), some (.int (iI x2)), some (.int (iI x3))]) (st' := [.int (iI x3), .ref r0]) dX3_addPiece_53 (fun _ _ => rfl) ?_
  obtain ⟨hK1, h⟩ := h
  exact cq_call (th := false) (rest := []) (ls2 := [some (.ref r0), some (.int (iI x3))]) (pc' := 57) dX3_addPiece_54 (fun _ _ => ex_calV rfl (by decide)) rfl (Nat.le_of_ble_eq_true rfl) (Nat.le_of_ble_eq_true rfl) (Nat.le_of_ble_eq_true rfl) (cr_rcv rfl rfl (by decide) hK1) rfl rfl rfl (fun q => nomatch q) h
theorem c36_57 {c : CS} {Q : Rs → CS → Prop} {r0 : Nat} {r1 : Nat} {x2 : Int} {x3 : Int} {u0 : Int}
    (h : (u0 = 0 → CW g B O 36 72 [some (.ref r0), some (.ref r1), some (.int (iI x2)), some (.int (iI x3))] [] c Q) ∧ (¬ u0 = 0 → yK c r1 = 7 ∧ 5 < 10 ∧ (yT c r1).length + (tx 5).length ≤ 1024 ∧ (∀ d4, d4 = wT c r1 (yT c r1 ++ tx 5) → yK d4 r0 = 5 ∧ CW g B O 33 0 [some (.ref r0), some (.int (iI x3)), some (.ref r1), none, none] [] d4 (CK g B O 36 72 [some (.ref r0), some (.ref r1), some (.int (iI x2)), some (.int (iI x3))] [] Q false)))) (hx2 : (-2147483648 : Int) ≤ x2 ∧ x2 ≤ 2147483647 := by omega) (hx3 : (-2147483648 : Int) ≤ x3 ∧ x3 ≤ 2147483647 := by omega) (hu0 : (-2147483648 : Int) ≤ u0 ∧ u0 ≤ 2147483647 := by omega) :
    CW g B O 36 57 [some (.ref r0), some (.ref r1), some (.int (iI x2)), some (.int (iI x3))] [.int (iI u0)] c Q := by
  refine cq_R (fun hRc => ?_)
  obtain ⟨h1, h2⟩ := h
  refine cq_if (t := 72) dX3_addPiece_57 (by decide) (d_eq hu0 (by decide)) (fun q => ?_) (fun q => ?_)
  · have h := h1 q
    exact h
  · have h := h2 q
    refine cq_g (pc' := 61) (ls' := [some (.ref r0), some (.ref r1), some (.int (iI x2)), some (.int (iI x3))]) (st' := [.ref r1]) dX3_addPiece_60 (fun _ _ => rfl) ?_
    refine cq_ldcS dX3_addPiece_61 rfl ?_
    obtain ⟨hK1, hj2, hl3, h⟩ := h
    refine cq_call (th := false) (rest := []) (ls2 := [some (.ref r1), some (.ref (g (100 + 5))), none]) (pc' := 66) dX3_addPiece_63 (fun _ _ => ex_calV rfl (by decide)) rfl (Nat.le_of_ble_eq_true rfl) (Nat.le_of_ble_eq_true rfl) (Nat.le_of_ble_eq_true rfl) (cr_rcv rfl rfl (by decide) hK1) rfl rfl rfl (fun q => nomatch q) (t59 hK1 hj2 hl3 ?_)
    show CW g B O 36 66 [some (.ref r0), some (.ref r1), some (.int (iI x2)), some (.int (iI x3))] [] (wT c r1 (yT c r1 ++ tx 5)) Q
    generalize ed4 : wT c r1 (yT c r1 ++ tx 5) = d4
    replace h := h _ ed4.symm
    refine cq_R (fun hRd4 => ?_)
    refine cq_g (pc' := 67) (ls' := [some (.ref r0), some (.ref r1), some (.int (iI x2)), some (.int (iI x3))]) (st' := [.ref r0]) dX3_addPiece_66 (fun _ _ => rfl) ?_
    refine cq_g (pc' := 68) (ls' := [some (.ref r0), some (.ref r1), some (.int (iI x2)), some (.int (iI x3))]) (st' := [.int (iI x3), .ref r0]) dX3_addPiece_67 (fun _ _ => rfl) ?_
    refine cq_g (pc' := 69) (ls' := [some (.ref r0), some (.ref r1), some (.int (iI x2)), some (.int (iI x3))]) (st' := [.ref r1, .int (iI x3), .ref r0]) dX3_addPiece_68 (fun _ _ => rfl) ?_
    obtain ⟨hK5, h⟩ := h
    exact cq_call (th := false) (rest := []) (ls2 := [some (.ref r0), some (.int (iI x3)), some (.ref r1), none, none]) (pc' := 72) dX3_addPiece_69 (fun _ _ => ex_calV rfl (by decide)) rfl (Nat.le_of_ble_eq_true rfl) (Nat.le_of_ble_eq_true rfl) (Nat.le_of_ble_eq_true rfl) (cr_rcv rfl rfl (by decide) hK5) rfl rfl rfl (fun q => nomatch q) h
theorem c36_72 {c : CS} {Q : Rs → CS → Prop} {r0 : Nat} {r1 : Nat} {x2 : Int} {x3 : Int}
    (h : ((-2147483648 : Int) ≤ x3 + 1 ∧ x3 + 1 ≤ 2147483647) ∧ CW g B O 36 19 [some (.ref r0), some (.ref r1), some (.int (iI x2)), some (.int (iI (x3 + 1)))] [] c Q) (hx2 : (-2147483648 : Int) ≤ x2 ∧ x2 ≤ 2147483647 := by omega) (hx3 : (-2147483648 : Int) ≤ x3 ∧ x3 ≤ 2147483647 := by omega) :
    CW g B O 36 72 [some (.ref r0), some (.ref r1), some (.int (iI x2)), some (.int (iI x3))] [] c Q := by
  refine cq_R (fun hRc => ?_)
  obtain ⟨hr1, h⟩ := h
  refine cq_inc (ls' := [some (.ref r0), some (.ref r1), some (.int (iI x2)), some (.int (iI (x3 + 1)))]) dX3_addPiece_72 rfl (Nat.le_of_ble_eq_true rfl) rfl ?_
  refine cq_goto (t := 19) dX3_addPiece_75 (by decide) ?_
  exact h
theorem c36_92 {c : CS} {Q : Rs → CS → Prop} {l0 : Option Value} {l1 : Option Value} {l2 : Option Value} {l3 : Option Value}
    (h : Q (Sum.inl none) c)  :
    CW g B O 36 92 [l0, l1, l2, l3] [] c Q := by
  refine cq_R (fun hRc => ?_)
  exact cq_vret dX3_addPiece_92 rfl h
theorem c37_0 {c : CS} {Q : Rs → CS → Prop} {r0 : Nat} {r1 : Nat} {l2 : Option Value} {l3 : Option Value}
    (h : CW g B O 37 2 [some (.ref r0), some (.ref r1), some (.int (iI 0)), l3] [] c Q)  :
    CW g B O 37 0 [some (.ref r0), some (.ref r1), l2, l3] [] c Q := by
  refine cq_R (fun hRc => ?_)
  refine cq_ic dX3_addFamilySigns_0 ?_
  refine cq_g (pc' := 2) (ls' := [some (.ref r0), some (.ref r1), some (.int (iI 0)), l3]) (st' := []) dX3_addFamilySigns_1 (fun _ _ => rfl) ?_
  exact h
theorem c37_2 {c : CS} {Q : Rs → CS → Prop} {r0 : Nat} {r1 : Nat} {x2 : Int} {l3 : Option Value}
    (h : yK c r0 = 5 ∧ (yI c r0 6 ≤ x2 → CW g B O 37 57 [some (.ref r0), some (.ref r1), some (.int (iI x2)), l3] [] c Q) ∧ (x2 < yI c r0 6 → (4 ≤ x2 → CW g B O 37 57 [some (.ref r0), some (.ref r1), some (.int (iI x2)), l3] [] c Q) ∧ (x2 < 4 → yK c r0 = 5 ∧ CW g B O 29 0 [some (.ref r0), some (.int (iI x2))] [] c (CK g B O 37 20 [some (.ref r0), some (.ref r1), some (.int (iI x2)), l3] [] Q false)))) (hx2 : (-2147483648 : Int) ≤ x2 ∧ x2 ≤ 2147483647 := by omega) :
    CW g B O 37 2 [some (.ref r0), some (.ref r1), some (.int (iI x2)), l3] [] c Q := by
  refine cq_R (fun hRc => ?_)
  refine cq_g (pc' := 3) (ls' := [some (.ref r0), some (.ref r1), some (.int (iI x2)), l3]) (st' := [.int (iI x2)]) dX3_addFamilySigns_2 (fun _ _ => rfl) ?_
  refine cq_g (pc' := 4) (ls' := [some (.ref r0), some (.ref r1), some (.int (iI x2)), l3]) (st' := [.ref r0, .int (iI x2)]) dX3_addFamilySigns_3 (fun _ _ => rfl) ?_
  obtain ⟨hK1, h⟩ := h
  refine cq_getI dX3_addFamilySigns_4 rfl (by decide) rfl (by unfold plK; decide) hK1 ?_
  obtain ⟨h1, h2⟩ := h
  refine cq_icmp (t := 57) dX3_addFamilySigns_7 (by decide) (d_ge hx2 (hRc.1 _ _)) (fun q => ?_) (fun q => ?_)
  · have h := h1 q
    exact h
  · have h := h2 (Int.not_le.mp q)
    refine cq_g (pc' := 11) (ls' := [some (.ref r0), some (.ref r1), some (.int (iI x2)), l3]) (st' := [.int (iI x2)]) dX3_addFamilySigns_10 (fun _ _ => rfl) ?_
    refine cq_ic dX3_addFamilySigns_11 ?_
    obtain ⟨h1, h2⟩ := h
    refine cq_icmp (t := 57) dX3_addFamilySigns_12 (by decide) (d_ge hx2 (by decide)) (fun q => ?_) (fun q => ?_)
    · have h := h1 q
      exact h
    · have h := h2 (Int.not_le.mp q)
      refine cq_g (pc' := 16) (ls' := [some (.ref r0), some (.ref r1), some (.int (iI x2)), l3]) (st' := [.ref r0]) dX3_addFamilySigns_15 (fun _ _ => rfl) ?_
      refine cq_g (pc' := 17) (ls' := [some (.ref r0), some (.ref r1), some (.int (iI x2)), l3]) (st' := [.int (iI x2), .ref r0]) dX3_addFamilySigns_16 (fun _ _ => rfl) ?_
      obtain ⟨hK2, h⟩ := h
      exact cq_call (th := false) (rest := []) (ls2 := [some (.ref r0), some (.int (iI x2))]) (pc' := 20) dX3_addFamilySigns_17 (fun _ _ => ex_calV rfl (by decide)) rfl (Nat.le_of_ble_eq_true rfl) (Nat.le_of_ble_eq_true rfl) (Nat.le_of_ble_eq_true rfl) (cr_rcv rfl rfl (by decide) hK2) rfl rfl rfl (fun q => nomatch q) h
theorem c37_20 {c : CS} {Q : Rs → CS → Prop} {r0 : Nat} {r1 : Nat} {x2 : Int} {l3 : Option Value} {w0 : Nat}
    (h : yK c w0 = 4 ∧ yK c w0 = 4 ∧ (yI c w0 4 ≤ yI c w0 3 → CW g B O 37 51 [some (.ref r0), some (.ref r1), some (.int (iI x2)), some (.ref w0)] [] c Q) ∧ (yI c w0 3 < yI c w0 4 → yK c r0 = 5 ∧ ∃ b4, yP c r0 0 = some b4 ∧ (yK c w0 = 4 ∧ yK c r0 = 5 ∧ CW g B O 28 0 [some (.ref r0), some (.int (iI (yI c w0 3)))] [] c (CK g B O 37 45 [some (.ref r0), some (.ref r1), some (.int (iI x2)), some (.ref w0)] [.ref b4, .ref r1] Q false)))) (hx2 : (-2147483648 : Int) ≤ x2 ∧ x2 ≤ 2147483647 := by omega) :
    CW g B O 37 20 [some (.ref r0), some (.ref r1), some (.int (iI x2)), l3] [.ref w0] c Q := by
  refine cq_R (fun hRc => ?_)
  refine cq_g (pc' := 21) (ls' := [some (.ref r0), some (.ref r1), some (.int (iI x2)), some (.ref w0)]) (st' := []) dX3_addFamilySigns_20 (fun _ _ => rfl) ?_
  refine cq_g (pc' := 22) (ls' := [some (.ref r0), some (.ref r1), some (.int (iI x2)), some (.ref w0)]) (st' := [.ref w0]) dX3_addFamilySigns_21 (fun _ _ => rfl) ?_
  obtain ⟨hK1, h⟩ := h
  refine cq_getI dX3_addFamilySigns_22 rfl (by decide) rfl (by unfold plK; decide) hK1 ?_
  refine cq_g (pc' := 26) (ls' := [some (.ref r0), some (.ref r1), some (.int (iI x2)), some (.ref w0)]) (st' := [.ref w0, .int (iI (yI c w0 3))]) dX3_addFamilySigns_25 (fun _ _ => rfl) ?_
  obtain ⟨hK2, h⟩ := h
  refine cq_getI dX3_addFamilySigns_26 rfl (by decide) rfl (by unfold plK; decide) hK2 ?_
  obtain ⟨h1, h2⟩ := h
  refine cq_icmp (t := 51) dX3_addFamilySigns_29 (by decide) (d_ge (hRc.1 _ _) (hRc.1 _ _)) (fun q => ?_) (fun q => ?_)
  · have h := h1 q
    exact h
  · have h := h2 (Int.not_le.mp q)
    refine cq_g (pc' := 33) (ls' := [some (.ref r0), some (.ref r1), some (.int (iI x2)), some (.ref w0)]) (st' := [.ref r1]) dX3_addFamilySigns_32 (fun _ _ => rfl) ?_
    refine cq_g (pc' := 34) (ls' := [some (.ref r0), some (.ref r1), some (.int (iI x2)), some (.ref w0)]) (st' := [.ref r0, .ref r1]) dX3_addFamilySigns_33 (fun _ _ => rfl) ?_
    obtain ⟨hK3, b4, hP, h⟩ := h
    refine cq_getP dX3_addFamilySigns_34 rfl (by decide) rfl (by unfold plK; decide) hK3 hP ?_
    refine cq_g (pc' := 38) (ls' := [some (.ref r0), some (.ref r1), some (.int (iI x2)), some (.ref w0)]) (st' := [.ref r0, .ref b4, .ref r1]) dX3_addFamilySigns_37 (fun _ _ => rfl) ?_
    refine cq_g (pc' := 39) (ls' := [some (.ref r0), some (.ref r1), some (.int (iI x2)), some (.ref w0)]) (st' := [.ref w0, .ref r0, .ref b4, .ref r1]) dX3_addFamilySigns_38 (fun _ _ => rfl) ?_
    obtain ⟨hK5, h⟩ := h
    refine cq_getI dX3_addFamilySigns_39 rfl (by decide) rfl (by unfold plK; decide) hK5 ?_
    obtain ⟨hK6, h⟩ := h
    exact cq_call (th := false) (rest := [.ref b4, .ref r1]) (ls2 := [some (.ref r0), some (.int (iI (yI c w0 3)))]) (pc' := 45) dX3_addFamilySigns_42 (fun _ _ => ex_calV rfl (by decide)) rfl (Nat.le_of_ble_eq_true rfl) (Nat.le_of_ble_eq_true rfl) (Nat.le_of_ble_eq_true rfl) (cr_rcv rfl rfl (by decide) hK6) rfl rfl rfl (fun q => nomatch q) h
theorem c37_45 {c : CS} {Q : Rs → CS → Prop} {r0 : Nat} {r1 : Nat} {x2 : Int} {l3 : Option Value} {u0 : Int} {w1 : Nat} {w2 : Nat}
    (h : yK c w1 = 7 ∧ yK c w2 = 7 ∧ ((0 : Int) ≤ sg (yT c w1) u0 ∧ sg (yT c w1) u0 ≤ 65535) ∧ (yT c w2).length < 1024 ∧ (∀ d5, d5 = wT c w2 (yT c w2 ++ [sg (yT c w1) u0]) → CW g B O 37 51 [some (.ref r0), some (.ref r1), some (.int (iI x2)), l3] [] d5 Q)) (hx2 : (-2147483648 : Int) ≤ x2 ∧ x2 ≤ 2147483647 := by omega) (hu0 : (-2147483648 : Int) ≤ u0 ∧ u0 ≤ 2147483647 := by omega) :
    CW g B O 37 45 [some (.ref r0), some (.ref r1), some (.int (iI x2)), l3] [.int (iI u0), .ref w1, .ref w2] c Q := by
  refine cq_R (fun hRc => ?_)
  obtain ⟨hK1, h⟩ := h
  refine cq_call (th := false) (rest := [.ref w2]) (ls2 := [some (.ref w1), some (.int (iI u0))]) (pc' := 48) dX3_addFamilySigns_45 (fun _ _ => ex_calV rfl (by decide)) rfl (Nat.le_of_ble_eq_true rfl) (Nat.le_of_ble_eq_true rfl) (Nat.le_of_ble_eq_true rfl) (cr_rcv rfl rfl (by decide) hK1) rfl rfl rfl (fun q => nomatch q) (t56 hK1 hu0 ?_)
  show CW g B O 37 48 [some (.ref r0), some (.ref r1), some (.int (iI x2)), l3] [.int (iI (sg (yT c w1) u0)), .ref w2] c Q
  obtain ⟨hK2, hx3, hl4, h⟩ := h
  refine cq_call (th := false) (rest := []) (ls2 := [some (.ref w2), some (.int (iI (sg (yT c w1) u0))), none]) (pc' := 51) dX3_addFamilySigns_48 (fun _ _ => ex_calV rfl (by decide)) rfl (Nat.le_of_ble_eq_true rfl) (Nat.le_of_ble_eq_true rfl) (Nat.le_of_ble_eq_true rfl) (cr_rcv rfl rfl (by decide) hK2) rfl rfl rfl (fun q => nomatch q) (t57 hK2 hx3 hl4 ?_)
  show CW g B O 37 51 [some (.ref r0), some (.ref r1), some (.int (iI x2)), l3] [] (wT c w2 (yT c w2 ++ [sg (yT c w1) u0])) Q
  generalize ed5 : wT c w2 (yT c w2 ++ [sg (yT c w1) u0]) = d5
  replace h := h _ ed5.symm
  refine cq_R (fun hRd5 => ?_)
  exact h
theorem c37_51 {c : CS} {Q : Rs → CS → Prop} {r0 : Nat} {r1 : Nat} {x2 : Int} {l3 : Option Value}
    (h : ((-2147483648 : Int) ≤ x2 + 1 ∧ x2 + 1 ≤ 2147483647) ∧ CW g B O 37 2 [some (.ref r0), some (.ref r1), some (.int (iI (x2 + 1))), l3] [] c Q) (hx2 : (-2147483648 : Int) ≤ x2 ∧ x2 ≤ 2147483647 := by omega) :
    CW g B O 37 51 [some (.ref r0), some (.ref r1), some (.int (iI x2)), l3] [] c Q := by
  refine cq_R (fun hRc => ?_)
  obtain ⟨hr1, h⟩ := h
  refine cq_inc (ls' := [some (.ref r0), some (.ref r1), some (.int (iI (x2 + 1))), l3]) dX3_addFamilySigns_51 rfl (Nat.le_of_ble_eq_true rfl) rfl ?_
  refine cq_goto (t := 2) dX3_addFamilySigns_54 (by decide) ?_
  exact h
theorem c37_57 {c : CS} {Q : Rs → CS → Prop} {r0 : Nat} {r1 : Nat} {l2 : Option Value} {l3 : Option Value}
    (h : yK c r0 = 5 ∧ (yI c r0 6 ≤ 4 → CW g B O 37 71 [some (.ref r0), some (.ref r1), l2, l3] [] c Q) ∧ (4 < yI c r0 6 → yK c r1 = 7 ∧ ((0 : Int) ≤ 43 ∧ (43 : Int) ≤ 65535) ∧ (yT c r1).length < 1024 ∧ (∀ d5, d5 = wT c r1 (yT c r1 ++ [43]) → CW g B O 37 71 [some (.ref r0), some (.ref r1), l2, l3] [] d5 Q)))  :
    CW g B O 37 57 [some (.ref r0), some (.ref r1), l2, l3] [] c Q := by
  refine cq_R (fun hRc => ?_)
  refine cq_g (pc' := 58) (ls' := [some (.ref r0), some (.ref r1), l2, l3]) (st' := [.ref r0]) dX3_addFamilySigns_57 (fun _ _ => rfl) ?_
  obtain ⟨hK1, h⟩ := h
  refine cq_getI dX3_addFamilySigns_58 rfl (by decide) rfl (by unfold plK; decide) hK1 ?_
  refine cq_ic dX3_addFamilySigns_61 ?_
  obtain ⟨h1, h2⟩ := h
  refine cq_icmp (t := 71) dX3_addFamilySigns_62 (by decide) (d_le (hRc.1 _ _) (by decide)) (fun q => ?_) (fun q => ?_)
  · have h := h1 q
    exact h
  · have h := h2 (Int.not_le.mp q)
    refine cq_g (pc' := 66) (ls' := [some (.ref r0), some (.ref r1), l2, l3]) (st' := [.ref r1]) dX3_addFamilySigns_65 (fun _ _ => rfl) ?_
    refine cq_bi dX3_addFamilySigns_66 (by decide) ?_
    obtain ⟨hK2, hx3, hl4, h⟩ := h
    refine cq_call (th := false) (rest := []) (ls2 := [some (.ref r1), some (.int (iI 43)), none]) (pc' := 71) dX3_addFamilySigns_68 (fun _ _ => ex_calV rfl (by decide)) rfl (Nat.le_of_ble_eq_true rfl) (Nat.le_of_ble_eq_true rfl) (Nat.le_of_ble_eq_true rfl) (cr_rcv rfl rfl (by decide) hK2) rfl rfl rfl (fun q => nomatch q) (t57 hK2 hx3 hl4 ?_)
    show CW g B O 37 71 [some (.ref r0), some (.ref r1), l2, l3] [] (wT c r1 (yT c r1 ++ [43])) Q
    generalize ed5 : wT c r1 (yT c r1 ++ [43]) = d5
    replace h := h _ ed5.symm
    refine cq_R (fun hRd5 => ?_)
    exact h
theorem c37_71 {c : CS} {Q : Rs → CS → Prop} {l0 : Option Value} {l1 : Option Value} {l2 : Option Value} {l3 : Option Value}
    (h : Q (Sum.inl none) c)  :
    CW g B O 37 71 [l0, l1, l2, l3] [] c Q := by
  refine cq_R (fun hRc => ?_)
  exact cq_vret dX3_addFamilySigns_71 rfl h
end Blk
