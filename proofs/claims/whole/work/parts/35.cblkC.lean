section Blk
variable {g : Nat → Nat} {B : Nat} {O : Nat → Prop}
theorem c66_0 {c : CS} {Q : Rs → CS → Prop} {r0 : Nat}
    (h : yU c + 15400 ≤ B ∧ (∀ b1, yK c b1 = 0 → ∀ d2, d2 = wN c b1 1 0 15400 → yK d2 r0 = 8 ∧ (∀ d4, d4 = wP d2 r0 0 (some b1) → yU d4 + 15400 ≤ B ∧ (∀ b6, yK d4 b6 = 0 → ∀ d7, d7 = wN d4 b6 1 0 15400 → yK d7 r0 = 8 ∧ (∀ d9, d9 = wP d7 r0 1 (some b6) → yK d9 r0 = 8 ∧ (∀ d11, d11 = wI d9 r0 2 0 → yK d11 r0 = 8 ∧ (∀ d13, d13 = wI d11 r0 3 0 → yU d13 + 14 ≤ B ∧ (∀ b15, yK d13 b15 = 0 → ∀ d16, d16 = wN d13 b15 3 0 14 → CW g B O 5 0 [some (.ref b15)] [] d16 (CK g B O 66 44 [some (.ref r0)] [.ref b15, .ref r0] Q false)))))))))  :
    CW g B O 66 0 [some (.ref r0)] [] c Q := by
  refine cq_R (fun hRc => ?_)
  refine cq_g (pc' := 1) (ls' := [some (.ref r0)]) (st' := [.ref r0]) dX6_init_0 (fun _ _ => rfl) ?_
  refine cq_oi dX6_init_1 rfl ⟨Nat.le_of_ble_eq_true rfl, Nat.le_of_ble_eq_true rfl, Nat.le_of_ble_eq_true rfl⟩ ?_
  refine cq_g (pc' := 5) (ls' := [some (.ref r0)]) (st' := [.ref r0]) dX6_init_4 (fun _ _ => rfl) ?_
  obtain ⟨hU3, h⟩ := h
  refine cq_newL dX6_init_5 rfl dX6_init_8 dX6_init_9 rfl rfl (Nat.le_of_ble_eq_true rfl) hU3 (fun b1 hbb1 => ?_)
  replace h := h b1 hbb1
  generalize ed2 : wN c b1 1 0 15400 = d2
  replace h := h _ ed2.symm
  refine cq_R (fun hRd2 => ?_)
  obtain ⟨hK5, h⟩ := h
  refine cq_putP dX6_init_12 rfl (by decide) (Or.inr ⟨rfl, rfl⟩) rfl (by unfold plK; decide) hK5 ?_
  generalize ed4 : wP d2 r0 0 (some b1) = d4
  replace h := h _ ed4.symm
  refine cq_R (fun hRd4 => ?_)
  refine cq_g (pc' := 16) (ls' := [some (.ref r0)]) (st' := [.ref r0]) dX6_init_15 (fun _ _ => rfl) ?_
  obtain ⟨hU8, h⟩ := h
  refine cq_newL dX6_init_16 rfl dX6_init_19 dX6_init_20 rfl rfl (Nat.le_of_ble_eq_true rfl) hU8 (fun b6 hbb6 => ?_)
  replace h := h b6 hbb6
  generalize ed7 : wN d4 b6 1 0 15400 = d7
  replace h := h _ ed7.symm
  refine cq_R (fun hRd7 => ?_)
  obtain ⟨hK10, h⟩ := h
  refine cq_putP dX6_init_23 rfl (by decide) (Or.inr ⟨rfl, rfl⟩) rfl (by unfold plK; decide) hK10 ?_
  generalize ed9 : wP d7 r0 1 (some b6) = d9
  replace h := h _ ed9.symm
  refine cq_R (fun hRd9 => ?_)
  refine cq_g (pc' := 27) (ls' := [some (.ref r0)]) (st' := [.ref r0]) dX6_init_26 (fun _ _ => rfl) ?_
  refine cq_ic dX6_init_27 ?_
  obtain ⟨hK12, h⟩ := h
  refine cq_putI dX6_init_28 rfl (by decide) (Or.inl rfl) rfl (by unfold plK; decide) (Or.inl rfl) (by decide) hK12 ?_
  generalize ed11 : wI d9 r0 2 0 = d11
  replace h := h _ ed11.symm
  refine cq_R (fun hRd11 => ?_)
  refine cq_g (pc' := 32) (ls' := [some (.ref r0)]) (st' := [.ref r0]) dX6_init_31 (fun _ _ => rfl) ?_
  refine cq_ic dX6_init_32 ?_
  obtain ⟨hK14, h⟩ := h
  refine cq_putI dX6_init_33 rfl (by decide) (Or.inl rfl) rfl (by unfold plK; decide) (Or.inl rfl) (by decide) hK14 ?_
  generalize ed13 : wI d11 r0 3 0 = d13
  replace h := h _ ed13.symm
  refine cq_R (fun hRd13 => ?_)
  refine cq_g (pc' := 37) (ls' := [some (.ref r0)]) (st' := [.ref r0]) dX6_init_36 (fun _ _ => rfl) ?_
  obtain ⟨hU17, h⟩ := h
  refine cq_new (N := 6) dX6_init_37 rfl (by decide) rfl (by unfold plK; decide) hU17 (fun b15 hbb15 => ?_)
  replace h := h b15 hbb15
  show CW g B O 66 40 [some (.ref r0)] [.ref b15, .ref r0] (wN d13 b15 3 0 14) Q
  generalize ed16 : wN d13 b15 3 0 14 = d16
  replace h := h _ ed16.symm
  refine cq_R (fun hRd16 => ?_)
  refine cq_g (pc' := 41) (ls' := [some (.ref r0)]) (st' := [.ref b15, .ref b15, .ref r0]) dX6_init_40 (fun _ _ => rfl) ?_
  exact cq_call (th := false) (rest := [.ref b15, .ref r0]) (ls2 := [some (.ref b15)]) (pc' := 44) dX6_init_41 (fun _ _ => ex_calI rfl (by decide)) rfl (Nat.le_of_ble_eq_true rfl) (Nat.le_of_ble_eq_true rfl) (Nat.le_of_ble_eq_true rfl) (fun _ _ => rfl) rfl rfl rfl (fun q => nomatch q) h
theorem c66_44 {c : CS} {Q : Rs → CS → Prop} {r0 : Nat} {w0 : Nat} {w1 : Nat}
    (h : yK c w1 = 8 ∧ (∀ d1, d1 = wP c w1 4 (some w0) → yU d1 + 4100 ≤ B ∧ (∀ b3, yK d1 b3 = 0 → ∀ d4, d4 = wN d1 b3 7 0 4100 → yK d4 r0 = 8 ∧ (∀ d6, d6 = wP d4 r0 5 (some b3) → yU d6 + 15 ≤ B ∧ (∀ b8, yK d6 b8 = 0 → ∀ d9, d9 = wN d6 b8 5 0 15 → CW g B O 18 0 [some (.ref b8)] [] d9 (CK g B O 66 66 [some (.ref r0)] [.ref b8, .ref r0] Q false))))))  :
    CW g B O 66 44 [some (.ref r0)] [.ref w0, .ref w1] c Q := by
  refine cq_R (fun hRc => ?_)
  obtain ⟨hK2, h⟩ := h
  refine cq_putP dX6_init_44 rfl (by decide) (Or.inr ⟨rfl, rfl⟩) rfl (by unfold plK; decide) hK2 ?_
  generalize ed1 : wP c w1 4 (some w0) = d1
  replace h := h _ ed1.symm
  refine cq_R (fun hRd1 => ?_)
  refine cq_g (pc' := 48) (ls' := [some (.ref r0)]) (st' := [.ref r0]) dX6_init_47 (fun _ _ => rfl) ?_
  obtain ⟨hU5, h⟩ := h
  refine cq_newT dX6_init_48 rfl dX6_init_51 dX6_init_52 rfl rfl (Nat.le_of_ble_eq_true rfl) hU5 (fun b3 hbb3 => ?_)
  replace h := h b3 hbb3
  generalize ed4 : wN d1 b3 7 0 4100 = d4
  replace h := h _ ed4.symm
  refine cq_R (fun hRd4 => ?_)
  obtain ⟨hK7, h⟩ := h
  refine cq_putP dX6_init_55 rfl (by decide) (Or.inr ⟨rfl, rfl⟩) rfl (by unfold plK; decide) hK7 ?_
  generalize ed6 : wP d4 r0 5 (some b3) = d6
  replace h := h _ ed6.symm
  refine cq_R (fun hRd6 => ?_)
  refine cq_g (pc' := 59) (ls' := [some (.ref r0)]) (st' := [.ref r0]) dX6_init_58 (fun _ _ => rfl) ?_
  obtain ⟨hU10, h⟩ := h
  refine cq_new (N := 7) dX6_init_59 rfl (by decide) rfl (by unfold plK; decide) hU10 (fun b8 hbb8 => ?_)
  replace h := h b8 hbb8
  show CW g B O 66 62 [some (.ref r0)] [.ref b8, .ref r0] (wN d6 b8 5 0 15) Q
  generalize ed9 : wN d6 b8 5 0 15 = d9
  replace h := h _ ed9.symm
  refine cq_R (fun hRd9 => ?_)
  refine cq_g (pc' := 63) (ls' := [some (.ref r0)]) (st' := [.ref b8, .ref b8, .ref r0]) dX6_init_62 (fun _ _ => rfl) ?_
  exact cq_call (th := false) (rest := [.ref b8, .ref r0]) (ls2 := [some (.ref b8)]) (pc' := 66) dX6_init_63 (fun _ _ => ex_calI rfl (by decide)) rfl (Nat.le_of_ble_eq_true rfl) (Nat.le_of_ble_eq_true rfl) (Nat.le_of_ble_eq_true rfl) (fun _ _ => rfl) rfl rfl rfl (fun q => nomatch q) h
theorem c66_66 {c : CS} {Q : Rs → CS → Prop} {r0 : Nat} {w0 : Nat} {w1 : Nat}
    (h : yK c w1 = 8 ∧ (∀ d1, d1 = wP c w1 6 (some w0) → yU d1 + 4100 ≤ B ∧ (∀ b3, yK d1 b3 = 0 → ∀ d4, d4 = wN d1 b3 7 0 4100 → yK d4 r0 = 8 ∧ (∀ d6, d6 = wP d4 r0 7 (some b3) → Q (Sum.inl none) d6))))  :
    CW g B O 66 66 [some (.ref r0)] [.ref w0, .ref w1] c Q := by
  refine cq_R (fun hRc => ?_)
  obtain ⟨hK2, h⟩ := h
  refine cq_putP dX6_init_66 rfl (by decide) (Or.inr ⟨rfl, rfl⟩) rfl (by unfold plK; decide) hK2 ?_
  generalize ed1 : wP c w1 6 (some w0) = d1
  replace h := h _ ed1.symm
  refine cq_R (fun hRd1 => ?_)
  refine cq_g (pc' := 70) (ls' := [some (.ref r0)]) (st' := [.ref r0]) dX6_init_69 (fun _ _ => rfl) ?_
  obtain ⟨hU5, h⟩ := h
  refine cq_newT dX6_init_70 rfl dX6_init_73 dX6_init_74 rfl rfl (Nat.le_of_ble_eq_true rfl) hU5 (fun b3 hbb3 => ?_)
  replace h := h b3 hbb3
  generalize ed4 : wN d1 b3 7 0 4100 = d4
  replace h := h _ ed4.symm
  refine cq_R (fun hRd4 => ?_)
  obtain ⟨hK7, h⟩ := h
  refine cq_putP dX6_init_77 rfl (by decide) (Or.inr ⟨rfl, rfl⟩) rfl (by unfold plK; decide) hK7 ?_
  generalize ed6 : wP d4 r0 7 (some b3) = d6
  replace h := h _ ed6.symm
  refine cq_R (fun hRd6 => ?_)
  exact cq_vret dX6_init_80 rfl h
theorem c67_0 {c : CS} {Q : Rs → CS → Prop} {r0 : Nat} {x1 : Int} {l2 : Option Value}
    (h : yK c r0 = 8 ∧ ∃ b2, yP c r0 0 = some b2 ∧ (yK c b2 = 1 ∧ (((yE c b2).length : Int) < 24 → yK c r0 = 8 ∧ ∃ b5, yP c r0 0 = some b5 ∧ (yU c + 13 ≤ B ∧ (∀ b6, yK c b6 = 0 → ∀ d7, d7 = wN c b6 2 0 13 → CW g B O 0 0 [some (.ref b6), some (.int (iI ((yE c b2).length : Int))), some (.int (iI x1)), none] [] d7 (CK g B O 67 37 [some (.ref r0), some (.int (iI x1)), some (.int (iI ((yE c b2).length : Int)))] [.ref b6, .ref b5] Q false)))) ∧ (24 ≤ ((yE c b2).length : Int) → (yU c + 8 ≤ B) ∧ Q (Sum.inr 3) c))) (hx1 : (-2147483648 : Int) ≤ x1 ∧ x1 ≤ 2147483647 := by omega) :
    CW g B O 67 0 [some (.ref r0), some (.int (iI x1)), l2] [] c Q := by
  refine cq_R (fun hRc => ?_)
  refine cq_g (pc' := 1) (ls' := [some (.ref r0), some (.int (iI x1)), l2]) (st' := [.ref r0]) dX6_entry_0 (fun _ _ => rfl) ?_
  obtain ⟨hK1, b2, hP, h⟩ := h
  refine cq_getP dX6_entry_1 rfl (by decide) rfl (by unfold plK; decide) hK1 hP ?_
  obtain ⟨hK3, h⟩ := h
  refine cq_call (th := false) (rest := []) (ls2 := [some (.ref b2)]) (pc' := 7) dX6_entry_4 (fun _ _ => ex_calV rfl (by decide)) rfl (Nat.le_of_ble_eq_true rfl) (Nat.le_of_ble_eq_true rfl) (Nat.le_of_ble_eq_true rfl) (cr_rcv rfl rfl (by decide) hK3) rfl rfl rfl (fun q => nomatch q) (t161 hK3 ?_)
  show CW g B O 67 7 [some (.ref r0), some (.int (iI x1)), l2] [.int (iI ((yE c b2).length : Int))] c Q
  refine cq_g (pc' := 8) (ls' := [some (.ref r0), some (.int (iI x1)), some (.int (iI ((yE c b2).length : Int)))]) (st' := []) dX6_entry_7 (fun _ _ => rfl) ?_
  refine cq_g (pc' := 9) (ls' := [some (.ref r0), some (.int (iI x1)), some (.int (iI ((yE c b2).length : Int)))]) (st' := [.int (iI ((yE c b2).length : Int))]) dX6_entry_8 (fun _ _ => rfl) ?_
  refine cq_bi dX6_entry_9 (by decide) ?_
  obtain ⟨h1, h2⟩ := h
  refine cq_icmp (t := 24) dX6_entry_11 (by decide) (d_lt (crE hRc hK3) (by decide)) (fun q => ?_) (fun q => ?_)
  · have h := h1 q
    refine cq_g (pc' := 25) (ls' := [some (.ref r0), some (.int (iI x1)), some (.int (iI ((yE c b2).length : Int)))]) (st' := [.ref r0]) dX6_entry_24 (fun _ _ => rfl) ?_
    obtain ⟨hK4, b5, hP, h⟩ := h
    refine cq_getP dX6_entry_25 rfl (by decide) rfl (by unfold plK; decide) hK4 hP ?_
    obtain ⟨hU8, h⟩ := h
    refine cq_new (N := 5) dX6_entry_28 rfl (by decide) rfl (by unfold plK; decide) hU8 (fun b6 hbb6 => ?_)
    replace h := h b6 hbb6
    show CW g B O 67 31 [some (.ref r0), some (.int (iI x1)), some (.int (iI ((yE c b2).length : Int)))] [.ref b6, .ref b5] (wN c b6 2 0 13) Q
    generalize ed7 : wN c b6 2 0 13 = d7
    replace h := h _ ed7.symm
    refine cq_R (fun hRd7 => ?_)
    refine cq_g (pc' := 32) (ls' := [some (.ref r0), some (.int (iI x1)), some (.int (iI ((yE c b2).length : Int)))]) (st' := [.ref b6, .ref b6, .ref b5]) dX6_entry_31 (fun _ _ => rfl) ?_
    refine cq_g (pc' := 33) (ls' := [some (.ref r0), some (.int (iI x1)), some (.int (iI ((yE c b2).length : Int)))]) (st' := [.int (iI ((yE c b2).length : Int)), .ref b6, .ref b6, .ref b5]) dX6_entry_32 (fun _ _ => rfl) ?_
    refine cq_g (pc' := 34) (ls' := [some (.ref r0), some (.int (iI x1)), some (.int (iI ((yE c b2).length : Int)))]) (st' := [.int (iI x1), .int (iI ((yE c b2).length : Int)), .ref b6, .ref b6, .ref b5]) dX6_entry_33 (fun _ _ => rfl) ?_
    exact cq_call (th := false) (rest := [.ref b6, .ref b5]) (ls2 := [some (.ref b6), some (.int (iI ((yE c b2).length : Int))), some (.int (iI x1)), none]) (pc' := 37) dX6_entry_34 (fun _ _ => ex_calI rfl (by decide)) rfl (Nat.le_of_ble_eq_true rfl) (Nat.le_of_ble_eq_true rfl) (Nat.le_of_ble_eq_true rfl) (fun _ _ => rfl) rfl rfl rfl (fun q => nomatch q) h
  · have h := h2 (Int.not_lt.mp q)
    exact cq_thr rfl (Nat.le_of_ble_eq_true rfl) (Nat.le_of_ble_eq_true rfl) (Nat.le_of_ble_eq_true rfl) h.1 h.2
theorem c67_37 {c : CS} {Q : Rs → CS → Prop} {l0 : Option Value} {l1 : Option Value} {x2 : Int} {w0 : Nat} {w1 : Nat}
    (h : yK c w1 = 1 ∧ (1 ≤ yK c w0 ∧ yK c w0 ≤ 9) ∧ (yE c w1).length < 64 ∧ (∀ d4, d4 = wU (wE c w1 ((yE c w1) ++ [w0])) (yU c - 100) → Q (Sum.inl (some (.int (iI x2)))) d4)) (hx2 : (-2147483648 : Int) ≤ x2 ∧ x2 ≤ 2147483647 := by omega) :
    CW g B O 67 37 [l0, l1, some (.int (iI x2))] [.ref w0, .ref w1] c Q := by
  refine cq_R (fun hRc => ?_)
  obtain ⟨hK1, hr2, hl3, h⟩ := h
  refine cq_call (th := false) (rest := []) (ls2 := [some (.ref w1), some (.ref w0)]) (pc' := 40) dX6_entry_37 (fun _ _ => ex_calV rfl (by decide)) rfl (Nat.le_of_ble_eq_true rfl) (Nat.le_of_ble_eq_true rfl) (Nat.le_of_ble_eq_true rfl) (cr_rcv rfl rfl (by decide) hK1) rfl rfl rfl (fun q => nomatch q) (t166 hK1 hr2 hl3 ?_)
  show CW g B O 67 40 [l0, l1, some (.int (iI x2))] [.int (iI 1)] (wU (wE c w1 ((yE c w1) ++ [w0])) (yU c - 100)) Q
  generalize ed4 : wU (wE c w1 ((yE c w1) ++ [w0])) (yU c - 100) = d4
  replace h := h _ ed4.symm
  refine cq_R (fun hRd4 => ?_)
  refine cq_g (pc' := 41) (ls' := [l0, l1, some (.int (iI x2))]) (st' := []) dX6_entry_40 (fun _ _ => rfl) ?_
  refine cq_g (pc' := 42) (ls' := [l0, l1, some (.int (iI x2))]) (st' := [.int (iI x2)]) dX6_entry_41 (fun _ _ => rfl) ?_
  exact cq_ret dX6_entry_42 rfl h
theorem c68_0 {c : CS} {Q : Rs → CS → Prop} {r0 : Nat} {x1 : Int} {x2 : Int}
    (h : yK c r0 = 8 ∧ CW g B O 81 0 [some (.ref r0), some (.int (iI x1))] [] c (CK g B O 68 5 [some (.ref r0), some (.int (iI x1)), some (.int (iI x2))] [] Q true)) (hx1 : (-2147483648 : Int) ≤ x1 ∧ x1 ≤ 2147483647 := by omega) (hx2 : (-2147483648 : Int) ≤ x2 ∧ x2 ≤ 2147483647 := by omega) :
    CW g B O 68 0 [some (.ref r0), some (.int (iI x1)), some (.int (iI x2))] [] c Q := by
  refine cq_R (fun hRc => ?_)
  refine cq_g (pc' := 1) (ls' := [some (.ref r0), some (.int (iI x1)), some (.int (iI x2))]) (st' := [.ref r0]) dX6_key_0 (fun _ _ => rfl) ?_
  refine cq_g (pc' := 2) (ls' := [some (.ref r0), some (.int (iI x1)), some (.int (iI x2))]) (st' := [.int (iI x1), .ref r0]) dX6_key_1 (fun _ _ => rfl) ?_
  obtain ⟨hK1, h⟩ := h
  exact cq_call (th := true) (rest := []) (ls2 := [some (.ref r0), some (.int (iI x1))]) (pc' := 5) dX6_key_2 (fun _ _ => ex_calV rfl (by decide)) rfl (Nat.le_of_ble_eq_true rfl) (Nat.le_of_ble_eq_true rfl) (Nat.le_of_ble_eq_true rfl) (cr_rcv rfl rfl (by decide) hK1) rfl rfl rfl (fun _ => ⟨by decide, by decide⟩) h
theorem c68_5 {c : CS} {Q : Rs → CS → Prop} {l0 : Option Value} {l1 : Option Value} {x2 : Int} {w0 : Nat}
    (h : yK c w0 = 2 ∧ ∃ b2, yP c w0 2 = some b2 ∧ (CW g B O 86 0 [some (.ref b2), some (.int (iI x2)), some (.int (iI 16)), none, none, none] [] c (CK g B O 68 14 [l0, l1, some (.int (iI x2))] [] Q true))) (hx2 : (-2147483648 : Int) ≤ x2 ∧ x2 ≤ 2147483647 := by omega) :
    CW g B O 68 5 [l0, l1, some (.int (iI x2))] [.ref w0] c Q := by
  refine cq_R (fun hRc => ?_)
  obtain ⟨hK1, b2, hP, h⟩ := h
  refine cq_getP dX6_key_5 rfl (by decide) rfl (by unfold plK; decide) hK1 hP ?_
  refine cq_g (pc' := 9) (ls' := [l0, l1, some (.int (iI x2))]) (st' := [.int (iI x2), .ref b2]) dX6_key_8 (fun _ _ => rfl) ?_
  refine cq_bi dX6_key_9 (by decide) ?_
  exact cq_call (th := true) (rest := []) (ls2 := [some (.ref b2), some (.int (iI x2)), some (.int (iI 16)), none, none, none]) (pc' := 14) dX6_key_11 (fun _ _ => ex_calS rfl (by decide)) rfl (Nat.le_of_ble_eq_true rfl) (Nat.le_of_ble_eq_true rfl) (Nat.le_of_ble_eq_true rfl) (fun _ _ => rfl) rfl rfl rfl (fun _ => ⟨by decide, by decide⟩) h
theorem c68_14 {c : CS} {Q : Rs → CS → Prop} {l0 : Option Value} {l1 : Option Value} {l2 : Option Value}
    (h : Q (Sum.inl none) c)  :
    CW g B O 68 14 [l0, l1, l2] [] c Q := by
  refine cq_R (fun hRc => ?_)
  exact cq_vret dX6_key_14 rfl h
theorem c69_0 {c : CS} {Q : Rs → CS → Prop} {r0 : Nat} {x1 : Int} {x2 : Int} {x3 : Int} {l4 : Option Value}
    (h : yK c r0 = 8 ∧ CW g B O 81 0 [some (.ref r0), some (.int (iI x1))] [] c (CK g B O 69 5 [some (.ref r0), some (.int (iI x1)), some (.int (iI x2)), some (.int (iI x3)), l4] [] Q true)) (hx1 : (-2147483648 : Int) ≤ x1 ∧ x1 ≤ 2147483647 := by omega) (hx2 : (-2147483648 : Int) ≤ x2 ∧ x2 ≤ 2147483647 := by omega) (hx3 : (-2147483648 : Int) ≤ x3 ∧ x3 ≤ 2147483647 := by omega) :
    CW g B O 69 0 [some (.ref r0), some (.int (iI x1)), some (.int (iI x2)), some (.int (iI x3)), l4] [] c Q := by
  refine cq_R (fun hRc => ?_)
  refine cq_g (pc' := 1) (ls' := [some (.ref r0), some (.int (iI x1)), some (.int (iI x2)), some (.int (iI x3)), l4]) (st' := [.ref r0]) dX6_field_0 (fun _ _ => rfl) ?_
  refine cq_g (pc' := 2) (ls' := [some (.ref r0), some (.int (iI x1)), some (.int (iI x2)), some (.int (iI x3)), l4]) (st' := [.int (iI x1), .ref r0]) dX6_field_1 (fun _ _ => rfl) ?_
  obtain ⟨hK1, h⟩ := h
  exact cq_call (th := true) (rest := []) (ls2 := [some (.ref r0), some (.int (iI x1))]) (pc' := 5) dX6_field_2 (fun _ _ => ex_calV rfl (by decide)) rfl (Nat.le_of_ble_eq_true rfl) (Nat.le_of_ble_eq_true rfl) (Nat.le_of_ble_eq_true rfl) (cr_rcv rfl rfl (by decide) hK1) rfl rfl rfl (fun _ => ⟨by decide, by decide⟩) h
theorem c69_5 {c : CS} {Q : Rs → CS → Prop} {l0 : Option Value} {l1 : Option Value} {x2 : Int} {x3 : Int} {l4 : Option Value} {w0 : Nat}
    (h : (x2 < 0 → CW g B O 69 17 [l0, l1, some (.int (iI x2)), some (.int (iI x3)), some (.ref w0)] [] c Q) ∧ (0 ≤ x2 → (x2 < 8 → yK c w0 = 2 ∧ CW g B O 1 0 [some (.ref w0), some (.int (iI x2))] [] c (CK g B O 69 33 [l0, l1, some (.int (iI x2)), some (.int (iI x3)), some (.ref w0)] [] Q false)) ∧ (8 ≤ x2 → CW g B O 69 17 [l0, l1, some (.int (iI x2)), some (.int (iI x3)), some (.ref w0)] [] c Q))) (hx2 : (-2147483648 : Int) ≤ x2 ∧ x2 ≤ 2147483647 := by omega) (hx3 : (-2147483648 : Int) ≤ x3 ∧ x3 ≤ 2147483647 := by omega) :
    CW g B O 69 5 [l0, l1, some (.int (iI x2)), some (.int (iI x3)), l4] [.ref w0] c Q := by
  refine cq_R (fun hRc => ?_)
  refine cq_g (pc' := 7) (ls' := [l0, l1, some (.int (iI x2)), some (.int (iI x3)), some (.ref w0)]) (st' := []) dX6_field_5 (fun _ _ => rfl) ?_
  refine cq_g (pc' := 8) (ls' := [l0, l1, some (.int (iI x2)), some (.int (iI x3)), some (.ref w0)]) (st' := [.int (iI x2)]) dX6_field_7 (fun _ _ => rfl) ?_
  obtain ⟨h1, h2⟩ := h
  refine cq_if (t := 17) dX6_field_8 (by decide) (d_lt hx2 (by decide)) (fun q => ?_) (fun q => ?_)
  · have h := h1 q
    exact h
  · have h := h2 (Int.not_lt.mp q)
    refine cq_g (pc' := 12) (ls' := [l0, l1, some (.int (iI x2)), some (.int (iI x3)), some (.ref w0)]) (st' := [.int (iI x2)]) dX6_field_11 (fun _ _ => rfl) ?_
    refine cq_bi dX6_field_12 (by decide) ?_
    obtain ⟨h1, h2⟩ := h
    refine cq_icmp (t := 27) dX6_field_14 (by decide) (d_lt hx2 (by decide)) (fun q => ?_) (fun q => ?_)
    · have h := h1 q
      refine cq_g (pc' := 29) (ls' := [l0, l1, some (.int (iI x2)), some (.int (iI x3)), some (.ref w0)]) (st' := [.ref w0]) dX6_field_27 (fun _ _ => rfl) ?_
      refine cq_g (pc' := 30) (ls' := [l0, l1, some (.int (iI x2)), some (.int (iI x3)), some (.ref w0)]) (st' := [.int (iI x2), .ref w0]) dX6_field_29 (fun _ _ => rfl) ?_
      obtain ⟨hK1, h⟩ := h
      exact cq_call (th := false) (rest := []) (ls2 := [some (.ref w0), some (.int (iI x2))]) (pc' := 33) dX6_field_30 (fun _ _ => ex_calV rfl (by decide)) rfl (Nat.le_of_ble_eq_true rfl) (Nat.le_of_ble_eq_true rfl) (Nat.le_of_ble_eq_true rfl) (cr_rcv rfl rfl (by decide) hK1) rfl rfl rfl (fun q => nomatch q) h
    · have h := h2 (Int.not_lt.mp q)
      exact h
theorem c69_17 {c : CS} {Q : Rs → CS → Prop} {l0 : Option Value} {l1 : Option Value} {l2 : Option Value} {l3 : Option Value} {l4 : Option Value}
    (h : (yU c + 8 ≤ B) ∧ Q (Sum.inr 1) c)  :
    CW g B O 69 17 [l0, l1, l2, l3, l4] [] c Q := by
  refine cq_R (fun hRc => ?_)
  exact cq_thr rfl (Nat.le_of_ble_eq_true rfl) (Nat.le_of_ble_eq_true rfl) (Nat.le_of_ble_eq_true rfl) h.1 h.2
theorem c69_33 {c : CS} {Q : Rs → CS → Prop} {l0 : Option Value} {l1 : Option Value} {l2 : Option Value} {x3 : Int} {l4 : Option Value} {w0 : Nat}
    (h : CW g B O 86 0 [some (.ref w0), some (.int (iI x3)), some (.int (iI 80)), none, none, none] [] c (CK g B O 69 39 [l0, l1, l2, some (.int (iI x3)), l4] [] Q true)) (hx3 : (-2147483648 : Int) ≤ x3 ∧ x3 ≤ 2147483647 := by omega) :
    CW g B O 69 33 [l0, l1, l2, some (.int (iI x3)), l4] [.ref w0] c Q := by
  refine cq_R (fun hRc => ?_)
  refine cq_g (pc' := 34) (ls' := [l0, l1, l2, some (.int (iI x3)), l4]) (st' := [.int (iI x3), .ref w0]) dX6_field_33 (fun _ _ => rfl) ?_
  refine cq_bi dX6_field_34 (by decide) ?_
  exact cq_call (th := true) (rest := []) (ls2 := [some (.ref w0), some (.int (iI x3)), some (.int (iI 80)), none, none, none]) (pc' := 39) dX6_field_36 (fun _ _ => ex_calS rfl (by decide)) rfl (Nat.le_of_ble_eq_true rfl) (Nat.le_of_ble_eq_true rfl) (Nat.le_of_ble_eq_true rfl) (fun _ _ => rfl) rfl rfl rfl (fun _ => ⟨by decide, by decide⟩) h
theorem c69_39 {c : CS} {Q : Rs → CS → Prop} {l0 : Option Value} {l1 : Option Value} {l2 : Option Value} {l3 : Option Value} {l4 : Option Value}
    (h : Q (Sum.inl none) c)  :
    CW g B O 69 39 [l0, l1, l2, l3, l4] [] c Q := by
  refine cq_R (fun hRc => ?_)
  exact cq_vret dX6_field_39 rfl h
theorem c70_0 {c : CS} {Q : Rs → CS → Prop} {r0 : Nat} {x1 : Int} {l2 : Option Value}
    (h : yK c r0 = 8 ∧ CW g B O 81 0 [some (.ref r0), some (.int (iI x1))] [] c (CK g B O 70 5 [some (.ref r0), some (.int (iI x1)), l2] [] Q true)) (hx1 : (-2147483648 : Int) ≤ x1 ∧ x1 ≤ 2147483647 := by omega) :
    CW g B O 70 0 [some (.ref r0), some (.int (iI x1)), l2] [] c Q := by
  refine cq_R (fun hRc => ?_)
  refine cq_g (pc' := 1) (ls' := [some (.ref r0), some (.int (iI x1)), l2]) (st' := [.ref r0]) dX6_cite_0 (fun _ _ => rfl) ?_
  refine cq_g (pc' := 2) (ls' := [some (.ref r0), some (.int (iI x1)), l2]) (st' := [.int (iI x1), .ref r0]) dX6_cite_1 (fun _ _ => rfl) ?_
  obtain ⟨hK1, h⟩ := h
  exact cq_call (th := true) (rest := []) (ls2 := [some (.ref r0), some (.int (iI x1))]) (pc' := 5) dX6_cite_2 (fun _ _ => ex_calV rfl (by decide)) rfl (Nat.le_of_ble_eq_true rfl) (Nat.le_of_ble_eq_true rfl) (Nat.le_of_ble_eq_true rfl) (cr_rcv rfl rfl (by decide) hK1) rfl rfl rfl (fun _ => ⟨by decide, by decide⟩) h
theorem c70_5 {c : CS} {Q : Rs → CS → Prop} {r0 : Nat} {l1 : Option Value} {l2 : Option Value} {w0 : Nat}
    (h : yK c r0 = 8 ∧ ∃ b2, yP c r0 1 = some b2 ∧ (yK c b2 = 1 ∧ (((yE c b2).length : Int) < 60 → yK c r0 = 8 ∧ ∃ b5, yP c r0 1 = some b5 ∧ (yK c b5 = 1 ∧ (1 ≤ yK c w0 ∧ yK c w0 ≤ 9) ∧ (yE c b5).length < 64 ∧ (∀ d9, d9 = wU (wE c b5 ((yE c b5) ++ [w0])) (yU c - 100) → yK d9 r0 = 8 ∧ ∃ b11, yP d9 r0 1 = some b11 ∧ (yK d9 b11 = 1 ∧ Q (Sum.inl (some (.int (iI ((yE d9 b11).length : Int))))) d9)))) ∧ (60 ≤ ((yE c b2).length : Int) → (yU c + 8 ≤ B) ∧ Q (Sum.inr 3) c)))  :
    CW g B O 70 5 [some (.ref r0), l1, l2] [.ref w0] c Q := by
  refine cq_R (fun hRc => ?_)
  refine cq_g (pc' := 6) (ls' := [some (.ref r0), (clr l1), some (.ref w0)]) (st' := []) dX6_cite_5 (fun _ _ => rfl) ?_
  refine cq_g (pc' := 7) (ls' := [some (.ref r0), (clr l1), some (.ref w0)]) (st' := [.ref r0]) dX6_cite_6 (fun _ _ => rfl) ?_
  obtain ⟨hK1, b2, hP, h⟩ := h
  refine cq_getP dX6_cite_7 rfl (by decide) rfl (by unfold plK; decide) hK1 hP ?_
  obtain ⟨hK3, h⟩ := h
  refine cq_call (th := false) (rest := []) (ls2 := [some (.ref b2)]) (pc' := 13) dX6_cite_10 (fun _ _ => ex_calV rfl (by decide)) rfl (Nat.le_of_ble_eq_true rfl) (Nat.le_of_ble_eq_true rfl) (Nat.le_of_ble_eq_true rfl) (cr_rcv rfl rfl (by decide) hK3) rfl rfl rfl (fun q => nomatch q) (t161 hK3 ?_)
  show CW g B O 70 13 [some (.ref r0), (clr l1), some (.ref w0)] [.int (iI ((yE c b2).length : Int))] c Q
  refine cq_bi dX6_cite_13 (by decide) ?_
  obtain ⟨h1, h2⟩ := h
  refine cq_icmp (t := 28) dX6_cite_15 (by decide) (d_lt (crE hRc hK3) (by decide)) (fun q => ?_) (fun q => ?_)
  · have h := h1 q
    refine cq_g (pc' := 29) (ls' := [some (.ref r0), (clr l1), some (.ref w0)]) (st' := [.ref r0]) dX6_cite_28 (fun _ _ => rfl) ?_
    obtain ⟨hK4, b5, hP, h⟩ := h
    refine cq_getP dX6_cite_29 rfl (by decide) rfl (by unfold plK; decide) hK4 hP ?_
    refine cq_g (pc' := 33) (ls' := [some (.ref r0), (clr l1), some (.ref w0)]) (st' := [.ref w0, .ref b5]) dX6_cite_32 (fun _ _ => rfl) ?_
    obtain ⟨hK6, hr7, hl8, h⟩ := h
    refine cq_call (th := false) (rest := []) (ls2 := [some (.ref b5), some (.ref w0)]) (pc' := 36) dX6_cite_33 (fun _ _ => ex_calV rfl (by decide)) rfl (Nat.le_of_ble_eq_true rfl) (Nat.le_of_ble_eq_true rfl) (Nat.le_of_ble_eq_true rfl) (cr_rcv rfl rfl (by decide) hK6) rfl rfl rfl (fun q => nomatch q) (t166 hK6 hr7 hl8 ?_)
    show CW g B O 70 36 [some (.ref r0), (clr l1), some (.ref w0)] [.int (iI 1)] (wU (wE c b5 ((yE c b5) ++ [w0])) (yU c - 100)) Q
    generalize ed9 : wU (wE c b5 ((yE c b5) ++ [w0])) (yU c - 100) = d9
    replace h := h _ ed9.symm
    refine cq_R (fun hRd9 => ?_)
    refine cq_g (pc' := 37) (ls' := [some (.ref r0), (clr l1), some (.ref w0)]) (st' := []) dX6_cite_36 (fun _ _ => rfl) ?_
    refine cq_g (pc' := 38) (ls' := [some (.ref r0), (clr l1), some (.ref w0)]) (st' := [.ref r0]) dX6_cite_37 (fun _ _ => rfl) ?_
    obtain ⟨hK10, b11, hP, h⟩ := h
    refine cq_getP dX6_cite_38 rfl (by decide) rfl (by unfold plK; decide) hK10 hP ?_
    obtain ⟨hK12, h⟩ := h
    refine cq_call (th := false) (rest := []) (ls2 := [some (.ref b11)]) (pc' := 44) dX6_cite_41 (fun _ _ => ex_calV rfl (by decide)) rfl (Nat.le_of_ble_eq_true rfl) (Nat.le_of_ble_eq_true rfl) (Nat.le_of_ble_eq_true rfl) (cr_rcv rfl rfl (by decide) hK12) rfl rfl rfl (fun q => nomatch q) (t161 hK12 ?_)
    show CW g B O 70 44 [some (.ref r0), (clr l1), some (.ref w0)] [.int (iI ((yE d9 b11).length : Int))] d9 Q
    exact cq_ret dX6_cite_44 rfl h
  · have h := h2 (Int.not_lt.mp q)
    exact cq_thr rfl (Nat.le_of_ble_eq_true rfl) (Nat.le_of_ble_eq_true rfl) (Nat.le_of_ble_eq_true rfl) h.1 h.2
theorem c71_0 {c : CS} {Q : Rs → CS → Prop} {r0 : Nat} {x1 : Int} {x2 : Int} {l3 : Option Value} {l4 : Option Value}
    (h : yK c r0 = 8 ∧ CW g B O 81 0 [some (.ref r0), some (.int (iI x1))] [] c (CK g B O 71 5 [some (.ref r0), some (.int (iI x1)), some (.int (iI x2)), l3, l4] [] Q true)) (hx1 : (-2147483648 : Int) ≤ x1 ∧ x1 ≤ 2147483647 := by omega) (hx2 : (-2147483648 : Int) ≤ x2 ∧ x2 ≤ 2147483647 := by omega) :
    CW g B O 71 0 [some (.ref r0), some (.int (iI x1)), some (.int (iI x2)), l3, l4] [] c Q := by
  refine cq_R (fun hRc => ?_)
  refine cq_g (pc' := 1) (ls' := [some (.ref r0), some (.int (iI x1)), some (.int (iI x2)), l3, l4]) (st' := [.ref r0]) dX6_cross_0 (fun _ _ => rfl) ?_
  refine cq_g (pc' := 2) (ls' := [some (.ref r0), some (.int (iI x1)), some (.int (iI x2)), l3, l4]) (st' := [.int (iI x1), .ref r0]) dX6_cross_1 (fun _ _ => rfl) ?_
  obtain ⟨hK1, h⟩ := h
  exact cq_call (th := true) (rest := []) (ls2 := [some (.ref r0), some (.int (iI x1))]) (pc' := 5) dX6_cross_2 (fun _ _ => ex_calV rfl (by decide)) rfl (Nat.le_of_ble_eq_true rfl) (Nat.le_of_ble_eq_true rfl) (Nat.le_of_ble_eq_true rfl) (cr_rcv rfl rfl (by decide) hK1) rfl rfl rfl (fun _ => ⟨by decide, by decide⟩) h
theorem c71_5 {c : CS} {Q : Rs → CS → Prop} {r0 : Nat} {l1 : Option Value} {x2 : Int} {l3 : Option Value} {l4 : Option Value} {w0 : Nat}
    (h : yK c r0 = 8 ∧ CW g B O 81 0 [some (.ref r0), some (.int (iI x2))] [] c (CK g B O 71 11 [some (.ref r0), l1, some (.int (iI x2)), some (.ref w0), l4] [] Q true)) (hx2 : (-2147483648 : Int) ≤ x2 ∧ x2 ≤ 2147483647 := by omega) :
    CW g B O 71 5 [some (.ref r0), l1, some (.int (iI x2)), l3, l4] [.ref w0] c Q := by
  refine cq_R (fun hRc => ?_)
  refine cq_g (pc' := 6) (ls' := [some (.ref r0), l1, some (.int (iI x2)), some (.ref w0), l4]) (st' := []) dX6_cross_5 (fun _ _ => rfl) ?_
  refine cq_g (pc' := 7) (ls' := [some (.ref r0), l1, some (.int (iI x2)), some (.ref w0), l4]) (st' := [.ref r0]) dX6_cross_6 (fun _ _ => rfl) ?_
  refine cq_g (pc' := 8) (ls' := [some (.ref r0), l1, some (.int (iI x2)), some (.ref w0), l4]) (st' := [.int (iI x2), .ref r0]) dX6_cross_7 (fun _ _ => rfl) ?_
  obtain ⟨hK1, h⟩ := h
  exact cq_call (th := true) (rest := []) (ls2 := [some (.ref r0), some (.int (iI x2))]) (pc' := 11) dX6_cross_8 (fun _ _ => ex_calV rfl (by decide)) rfl (Nat.le_of_ble_eq_true rfl) (Nat.le_of_ble_eq_true rfl) (Nat.le_of_ble_eq_true rfl) (cr_rcv rfl rfl (by decide) hK1) rfl rfl rfl (fun _ => ⟨by decide, by decide⟩) h
theorem c71_11 {c : CS} {Q : Rs → CS → Prop} {l0 : Option Value} {l1 : Option Value} {l2 : Option Value} {r3 : Nat} {l4 : Option Value} {w0 : Nat}
    (h : yK c w0 = 2 ∧ CW g B O 4 0 [some (.ref w0), some (.ref r3), none, none] [] c (CK g B O 71 19 [l0, l1, l2, some (.ref r3), some (.ref w0)] [] Q false))  :
    CW g B O 71 11 [l0, l1, l2, some (.ref r3), l4] [.ref w0] c Q := by
  refine cq_R (fun hRc => ?_)
  refine cq_g (pc' := 13) (ls' := [l0, l1, l2, some (.ref r3), some (.ref w0)]) (st' := []) dX6_cross_11 (fun _ _ => rfl) ?_
  refine cq_g (pc' := 15) (ls' := [l0, l1, l2, some (.ref r3), some (.ref w0)]) (st' := [.ref w0]) dX6_cross_13 (fun _ _ => rfl) ?_
  refine cq_g (pc' := 16) (ls' := [l0, l1, l2, some (.ref r3), some (.ref w0)]) (st' := [.ref r3, .ref w0]) dX6_cross_15 (fun _ _ => rfl) ?_
  obtain ⟨hK1, h⟩ := h
  exact cq_call (th := false) (rest := []) (ls2 := [some (.ref w0), some (.ref r3), none, none]) (pc' := 19) dX6_cross_16 (fun _ _ => ex_calV rfl (by decide)) rfl (Nat.le_of_ble_eq_true rfl) (Nat.le_of_ble_eq_true rfl) (Nat.le_of_ble_eq_true rfl) (cr_rcv rfl rfl (by decide) hK1) rfl rfl rfl (fun q => nomatch q) h
theorem c71_19 {c : CS} {Q : Rs → CS → Prop} {l0 : Option Value} {l1 : Option Value} {l2 : Option Value} {r3 : Nat} {r4 : Nat} {u0 : Int}
    (h : (u0 = 0 → yK c r3 = 2 ∧ (∀ d1, d1 = wP c r3 4 (some r4) → Q (Sum.inl (some (.int (iI 1)))) d1)) ∧ (¬ u0 = 0 → Q (Sum.inl (some (.int (iI 0)))) c)) (hu0 : (-2147483648 : Int) ≤ u0 ∧ u0 ≤ 2147483647 := by omega) :
    CW g B O 71 19 [l0, l1, l2, some (.ref r3), some (.ref r4)] [.int (iI u0)] c Q := by
  refine cq_R (fun hRc => ?_)
  obtain ⟨h1, h2⟩ := h
  refine cq_if (t := 24) dX6_cross_19 (by decide) (d_eq hu0 (by decide)) (fun q => ?_) (fun q => ?_)
  · have h := h1 q
    refine cq_g (pc' := 25) (ls' := [l0, l1, l2, some (.ref r3), some (.ref r4)]) (st' := [.ref r3]) dX6_cross_24 (fun _ _ => rfl) ?_
    refine cq_g (pc' := 27) (ls' := [l0, l1, l2, some (.ref r3), some (.ref r4)]) (st' := [.ref r4, .ref r3]) dX6_cross_25 (fun _ _ => rfl) ?_
    obtain ⟨hK2, h⟩ := h
    refine cq_putP dX6_cross_27 rfl (by decide) (Or.inl rfl) rfl (by unfold plK; decide) hK2 ?_
    generalize ed1 : wP c r3 4 (some r4) = d1
    replace h := h _ ed1.symm
    refine cq_R (fun hRd1 => ?_)
    refine cq_ic dX6_cross_30 ?_
    exact cq_ret dX6_cross_31 rfl h
  · have h := h2 q
    refine cq_ic dX6_cross_22 ?_
    exact cq_ret dX6_cross_23 rfl h
theorem c72_0 {c : CS} {Q : Rs → CS → Prop} {r0 : Nat} {x1 : Int} {x2 : Int} {l3 : Option Value}
    (h : (x1 < 0 → CW g B O 72 18 [some (.ref r0), some (.int (iI x1)), some (.int (iI x2)), l3] [] c Q) ∧ (0 ≤ x1 → (2 < x1 → CW g B O 72 18 [some (.ref r0), some (.int (iI x1)), some (.int (iI x2)), l3] [] c Q) ∧ (x1 ≤ 2 → (x2 < 0 → CW g B O 72 18 [some (.ref r0), some (.int (iI x1)), some (.int (iI x2)), l3] [] c Q) ∧ (0 ≤ x2 → (x2 ≤ 2 → yK c r0 = 8 ∧ ((-2147483648 : Int) ≤ 10 * (yI c r0 2) ∧ 10 * (yI c r0 2) ≤ 2147483647) ∧ yK c r0 = 8 ∧ ((-2147483648 : Int) ≤ (10 * (yI c r0 2)) + (yI c r0 3) ∧ (10 * (yI c r0 2)) + (yI c r0 3) ≤ 2147483647) ∧ yK c r0 = 8 ∧ (∀ d5, d5 = wI c r0 2 x1 → yK d5 r0 = 8 ∧ (∀ d7, d7 = wI d5 r0 3 x2 → Q (Sum.inl (some (.int (iI ((10 * (yI c r0 2)) + (yI c r0 3)))))) d7))) ∧ (2 < x2 → CW g B O 72 18 [some (.ref r0), some (.int (iI x1)), some (.int (iI x2)), l3] [] c Q))))) (hx1 : (-2147483648 : Int) ≤ x1 ∧ x1 ≤ 2147483647 := by omega) (hx2 : (-2147483648 : Int) ≤ x2 ∧ x2 ≤ 2147483647 := by omega) :
    CW g B O 72 0 [some (.ref r0), some (.int (iI x1)), some (.int (iI x2)), l3] [] c Q := by
  refine cq_R (fun hRc => ?_)
  refine cq_g (pc' := 1) (ls' := [some (.ref r0), some (.int (iI x1)), some (.int (iI x2)), l3]) (st' := [.int (iI x1)]) dX6_style_0 (fun _ _ => rfl) ?_
  obtain ⟨h1, h2⟩ := h
  refine cq_if (t := 18) dX6_style_1 (by decide) (d_lt hx1 (by decide)) (fun q => ?_) (fun q => ?_)
  · have h := h1 q
    exact h
  · have h := h2 (Int.not_lt.mp q)
    refine cq_g (pc' := 5) (ls' := [some (.ref r0), some (.int (iI x1)), some (.int (iI x2)), l3]) (st' := [.int (iI x1)]) dX6_style_4 (fun _ _ => rfl) ?_
    refine cq_ic dX6_style_5 ?_
    obtain ⟨h1, h2⟩ := h
    refine cq_icmp (t := 18) dX6_style_6 (by decide) (d_gt hx1 (by decide)) (fun q => ?_) (fun q => ?_)
    · have h := h1 q
      exact h
    · have h := h2 (Int.not_lt.mp q)
      refine cq_g (pc' := 10) (ls' := [some (.ref r0), some (.int (iI x1)), some (.int (iI x2)), l3]) (st' := [.int (iI x2)]) dX6_style_9 (fun _ _ => rfl) ?_
      obtain ⟨h1, h2⟩ := h
      refine cq_if (t := 18) dX6_style_10 (by decide) (d_lt hx2 (by decide)) (fun q => ?_) (fun q => ?_)
      · have h := h1 q
        exact h
      · have h := h2 (Int.not_lt.mp q)
        refine cq_g (pc' := 14) (ls' := [some (.ref r0), some (.int (iI x1)), some (.int (iI x2)), l3]) (st' := [.int (iI x2)]) dX6_style_13 (fun _ _ => rfl) ?_
        refine cq_ic dX6_style_14 ?_
        obtain ⟨h1, h2⟩ := h
        refine cq_icmp (t := 28) dX6_style_15 (by decide) (d_le hx2 (by decide)) (fun q => ?_) (fun q => ?_)
        · have h := h1 q
          refine cq_bi dX6_style_28 (by decide) ?_
          refine cq_g (pc' := 31) (ls' := [some (.ref r0), some (.int (iI x1)), some (.int (iI x2)), l3]) (st' := [.ref r0, .int (iI 10)]) dX6_style_30 (fun _ _ => rfl) ?_
          obtain ⟨hK1, h⟩ := h
          refine cq_getI dX6_style_31 rfl (by decide) rfl (by unfold plK; decide) hK1 ?_
          obtain ⟨hr2, h⟩ := h
          refine cq_mul dX6_style_34 ?_
          refine cq_g (pc' := 36) (ls' := [some (.ref r0), some (.int (iI x1)), some (.int (iI x2)), l3]) (st' := [.ref r0, .int (iI (10 * (yI c r0 2)))]) dX6_style_35 (fun _ _ => rfl) ?_
          obtain ⟨hK3, h⟩ := h
          refine cq_getI dX6_style_36 rfl (by decide) rfl (by unfold plK; decide) hK3 ?_
          obtain ⟨hr4, h⟩ := h
          refine cq_add dX6_style_39 ?_
          refine cq_g (pc' := 41) (ls' := [some (.ref r0), some (.int (iI x1)), some (.int (iI x2)), some (.int (iI ((10 * (yI c r0 2)) + (yI c r0 3))))]) (st' := []) dX6_style_40 (fun _ _ => rfl) ?_
          refine cq_g (pc' := 42) (ls' := [some (.ref r0), some (.int (iI x1)), some (.int (iI x2)), some (.int (iI ((10 * (yI c r0 2)) + (yI c r0 3))))]) (st' := [.ref r0]) dX6_style_41 (fun _ _ => rfl) ?_
          refine cq_g (pc' := 43) (ls' := [some (.ref r0), some (.int (iI x1)), some (.int (iI x2)), some (.int (iI ((10 * (yI c r0 2)) + (yI c r0 3))))]) (st' := [.int (iI x1), .ref r0]) dX6_style_42 (fun _ _ => rfl) ?_
          obtain ⟨hK6, h⟩ := h
          refine cq_putI dX6_style_43 rfl (by decide) (Or.inl rfl) rfl (by unfold plK; decide) (Or.inl rfl) hx1 hK6 ?_
          generalize ed5 : wI c r0 2 x1 = d5
          replace h := h _ ed5.symm
          refine cq_R (fun hRd5 => ?_)
          refine cq_g (pc' := 47) (ls' := [some (.ref r0), some (.int (iI x1)), some (.int (iI x2)), some (.int (iI ((10 * (yI c r0 2)) + (yI c r0 3))))]) (st' := [.ref r0]) dX6_style_46 (fun _ _ => rfl) ?_
          refine cq_g (pc' := 48) (ls' := [some (.ref r0), some (.int (iI x1)), some (.int (iI x2)), some (.int (iI ((10 * (yI c r0 2)) + (yI c r0 3))))]) (st' := [.int (iI x2), .ref r0]) dX6_style_47 (fun _ _ => rfl) ?_
          obtain ⟨hK8, h⟩ := h
          refine cq_putI dX6_style_48 rfl (by decide) (Or.inl rfl) rfl (by unfold plK; decide) (Or.inl rfl) hx2 hK8 ?_
          generalize ed7 : wI d5 r0 3 x2 = d7
          replace h := h _ ed7.symm
          refine cq_R (fun hRd7 => ?_)
          refine cq_g (pc' := 52) (ls' := [some (.ref r0), some (.int (iI x1)), some (.int (iI x2)), some (.int (iI ((10 * (yI c r0 2)) + (yI c r0 3))))]) (st' := [.int (iI ((10 * (yI c r0 2)) + (yI c r0 3)))]) dX6_style_51 (fun _ _ => rfl) ?_
          exact cq_ret dX6_style_52 rfl h
        · have h := h2 (Int.not_le.mp q)
          exact h
theorem c72_18 {c : CS} {Q : Rs → CS → Prop} {l0 : Option Value} {l1 : Option Value} {l2 : Option Value} {l3 : Option Value}
    (h : (yU c + 8 ≤ B) ∧ Q (Sum.inr 2) c)  :
    CW g B O 72 18 [l0, l1, l2, l3] [] c Q := by
  refine cq_R (fun hRc => ?_)
  exact cq_thr rfl (Nat.le_of_ble_eq_true rfl) (Nat.le_of_ble_eq_true rfl) (Nat.le_of_ble_eq_true rfl) h.1 h.2
theorem c73_0 {c : CS} {Q : Rs → CS → Prop} {r0 : Nat} {l1 : Option Value}
    (h : yK c r0 = 8 ∧ ∃ b2, yP c r0 4 = some b2 ∧ (yK c b2 = 3 ∧ CW g B O 8 0 [some (.ref b2)] [] c (CK g B O 73 7 [some (.ref r0), l1] [] Q false)))  :
    CW g B O 73 0 [some (.ref r0), l1] [] c Q := by
  refine cq_R (fun hRc => ?_)
  refine cq_g (pc' := 1) (ls' := [some (.ref r0), l1]) (st' := [.ref r0]) dX6_run_0 (fun _ _ => rfl) ?_
  obtain ⟨hK1, b2, hP, h⟩ := h
  refine cq_getP dX6_run_1 rfl (by decide) rfl (by unfold plK; decide) hK1 hP ?_
  obtain ⟨hK3, h⟩ := h
  exact cq_call (th := false) (rest := []) (ls2 := [some (.ref b2)]) (pc' := 7) dX6_run_4 (fun _ _ => ex_calV rfl (by decide)) rfl (Nat.le_of_ble_eq_true rfl) (Nat.le_of_ble_eq_true rfl) (Nat.le_of_ble_eq_true rfl) (cr_rcv rfl rfl (by decide) hK3) rfl rfl rfl (fun q => nomatch q) h
theorem c73_7 {c : CS} {Q : Rs → CS → Prop} {r0 : Nat} {l1 : Option Value}
    (h : CW g B O 73 9 [some (.ref r0), some (.int (iI 0))] [] c Q)  :
    CW g B O 73 7 [some (.ref r0), l1] [] c Q := by
  refine cq_R (fun hRc => ?_)
  refine cq_ic dX6_run_7 ?_
  refine cq_g (pc' := 9) (ls' := [some (.ref r0), some (.int (iI 0))]) (st' := []) dX6_run_8 (fun _ _ => rfl) ?_
  exact h
theorem c73_9 {c : CS} {Q : Rs → CS → Prop} {r0 : Nat} {x1 : Int}
    (h : yK c r0 = 8 ∧ ∃ b2, yP c r0 1 = some b2 ∧ (yK c b2 = 1 ∧ (((yE c b2).length : Int) ≤ x1 → yK c r0 = 8 ∧ ∃ b5, yP c r0 4 = some b5 ∧ (yK c r0 = 8 ∧ yK c b5 = 3 ∧ CW g B O 10 0 [some (.ref b5), some (.int (iI (yI c r0 2))), none, none, none] [] c (CK g B O 73 59 [some (.ref r0), some (.int (iI x1))] [] Q false))) ∧ (x1 < ((yE c b2).length : Int) → yK c r0 = 8 ∧ ∃ b9, yP c r0 4 = some b9 ∧ (yK c r0 = 8 ∧ ∃ b11, yP c r0 1 = some b11 ∧ (yK c b11 = 1 ∧ ((0 : Int) ≤ x1 ∧ x1 < (yE c b11).length) ∧ ∃ b14, (yE c b11).getD (x1).toNat 0 = b14 ∧ (yK c b14 = 2 ∧ yK c r0 = 8 ∧ CW g B O 83 0 [some (.ref r0), some (.ref b14), none] [] c (CK g B O 73 39 [some (.ref r0), some (.int (iI x1))] [.ref b9] Q true))))))) (hx1 : (-2147483648 : Int) ≤ x1 ∧ x1 ≤ 2147483647 := by omega) :
    CW g B O 73 9 [some (.ref r0), some (.int (iI x1))] [] c Q := by
  refine cq_R (fun hRc => ?_)
  refine cq_g (pc' := 10) (ls' := [some (.ref r0), some (.int (iI x1))]) (st' := [.int (iI x1)]) dX6_run_9 (fun _ _ => rfl) ?_
  refine cq_g (pc' := 11) (ls' := [some (.ref r0), some (.int (iI x1))]) (st' := [.ref r0, .int (iI x1)]) dX6_run_10 (fun _ _ => rfl) ?_
  obtain ⟨hK1, b2, hP, h⟩ := h
  refine cq_getP dX6_run_11 rfl (by decide) rfl (by unfold plK; decide) hK1 hP ?_
  obtain ⟨hK3, h⟩ := h
  refine cq_call (th := false) (rest := [.int (iI x1)]) (ls2 := [some (.ref b2)]) (pc' := 17) dX6_run_14 (fun _ _ => ex_calV rfl (by decide)) rfl (Nat.le_of_ble_eq_true rfl) (Nat.le_of_ble_eq_true rfl) (Nat.le_of_ble_eq_true rfl) (cr_rcv rfl rfl (by decide) hK3) rfl rfl rfl (fun q => nomatch q) (t161 hK3 ?_)
  show CW g B O 73 17 [some (.ref r0), some (.int (iI x1))] [.int (iI ((yE c b2).length : Int)), .int (iI x1)] c Q
  obtain ⟨h1, h2⟩ := h
  refine cq_icmp (t := 48) dX6_run_17 (by decide) (d_ge hx1 (crE hRc hK3)) (fun q => ?_) (fun q => ?_)
  · have h := h1 q
    refine cq_g (pc' := 49) (ls' := [some (.ref r0), some (.int (iI x1))]) (st' := [.ref r0]) dX6_run_48 (fun _ _ => rfl) ?_
    obtain ⟨hK4, b5, hP, h⟩ := h
    refine cq_getP dX6_run_49 rfl (by decide) rfl (by unfold plK; decide) hK4 hP ?_
    refine cq_g (pc' := 53) (ls' := [some (.ref r0), some (.int (iI x1))]) (st' := [.ref r0, .ref b5]) dX6_run_52 (fun _ _ => rfl) ?_
    obtain ⟨hK6, h⟩ := h
    refine cq_getI dX6_run_53 rfl (by decide) rfl (by unfold plK; decide) hK6 ?_
    obtain ⟨hK7, h⟩ := h
    exact cq_call (th := false) (rest := []) (ls2 := [some (.ref b5), some (.int (iI (yI c r0 2))), none, none, none]) (pc' := 59) dX6_run_56 (fun _ _ => ex_calV rfl (by decide)) rfl (Nat.le_of_ble_eq_true rfl) (Nat.le_of_ble_eq_true rfl) (Nat.le_of_ble_eq_true rfl) (cr_rcv rfl rfl (by decide) hK7) rfl rfl rfl (fun q => nomatch q) h
  · have h := h2 (Int.not_le.mp q)
    refine cq_g (pc' := 21) (ls' := [some (.ref r0), some (.int (iI x1))]) (st' := [.ref r0]) dX6_run_20 (fun _ _ => rfl) ?_
    obtain ⟨hK8, b9, hP, h⟩ := h
    refine cq_getP dX6_run_21 rfl (by decide) rfl (by unfold plK; decide) hK8 hP ?_
    refine cq_g (pc' := 25) (ls' := [some (.ref r0), some (.int (iI x1))]) (st' := [.ref r0, .ref b9]) dX6_run_24 (fun _ _ => rfl) ?_
    refine cq_g (pc' := 26) (ls' := [some (.ref r0), some (.int (iI x1))]) (st' := [.ref r0, .ref r0, .ref b9]) dX6_run_25 (fun _ _ => rfl) ?_
    obtain ⟨hK10, b11, hP, h⟩ := h
    refine cq_getP dX6_run_26 rfl (by decide) rfl (by unfold plK; decide) hK10 hP ?_
    refine cq_g (pc' := 30) (ls' := [some (.ref r0), some (.int (iI x1))]) (st' := [.int (iI x1), .ref b11, .ref r0, .ref b9]) dX6_run_29 (fun _ _ => rfl) ?_
    obtain ⟨hK12, hx13, b14, hb15, h⟩ := h
    refine cq_call (th := false) (rest := [.ref r0, .ref b9]) (ls2 := [some (.ref b11), some (.int (iI x1))]) (pc' := 33) dX6_run_30 (fun _ _ => ex_calV rfl (by decide)) rfl (Nat.le_of_ble_eq_true rfl) (Nat.le_of_ble_eq_true rfl) (Nat.le_of_ble_eq_true rfl) (cr_rcv rfl rfl (by decide) hK12) rfl rfl rfl (fun q => nomatch q) (t163 (x := x1) hK12 hx13 ?_)
    rw [hb15]
    show CW g B O 73 33 [some (.ref r0), some (.int (iI x1))] [.ref b14, .ref r0, .ref b9] c Q
    obtain ⟨hK16, h⟩ := h
    refine cq_chk dX6_run_33 rfl (by decide) hK16 ?_
    obtain ⟨hK17, h⟩ := h
    exact cq_call (th := true) (rest := [.ref b9]) (ls2 := [some (.ref r0), some (.ref b14), none]) (pc' := 39) dX6_run_36 (fun _ _ => ex_calV rfl (by decide)) rfl (Nat.le_of_ble_eq_true rfl) (Nat.le_of_ble_eq_true rfl) (Nat.le_of_ble_eq_true rfl) (cr_rcv rfl rfl (by decide) hK17) rfl rfl rfl (fun _ => ⟨by decide, by decide⟩) h
theorem c73_39 {c : CS} {Q : Rs → CS → Prop} {r0 : Nat} {x1 : Int} {w0 : Nat} {w1 : Nat}
    (h : yK c w1 = 3 ∧ CW g B O 9 0 [some (.ref w1), some (.ref w0), none] [] c (CK g B O 73 42 [some (.ref r0), some (.int (iI x1))] [] Q false)) (hx1 : (-2147483648 : Int) ≤ x1 ∧ x1 ≤ 2147483647 := by omega) :
    CW g B O 73 39 [some (.ref r0), some (.int (iI x1))] [.ref w0, .ref w1] c Q := by
  refine cq_R (fun hRc => ?_)
  obtain ⟨hK1, h⟩ := h
  exact cq_call (th := false) (rest := []) (ls2 := [some (.ref w1), some (.ref w0), none]) (pc' := 42) dX6_run_39 (fun _ _ => ex_calV rfl (by decide)) rfl (Nat.le_of_ble_eq_true rfl) (Nat.le_of_ble_eq_true rfl) (Nat.le_of_ble_eq_true rfl) (cr_rcv rfl rfl (by decide) hK1) rfl rfl rfl (fun q => nomatch q) h
theorem c73_42 {c : CS} {Q : Rs → CS → Prop} {r0 : Nat} {x1 : Int}
    (h : ((-2147483648 : Int) ≤ x1 + 1 ∧ x1 + 1 ≤ 2147483647) ∧ CW g B O 73 9 [some (.ref r0), some (.int (iI (x1 + 1)))] [] c Q) (hx1 : (-2147483648 : Int) ≤ x1 ∧ x1 ≤ 2147483647 := by omega) :
    CW g B O 73 42 [some (.ref r0), some (.int (iI x1))] [] c Q := by
  refine cq_R (fun hRc => ?_)
  obtain ⟨hr1, h⟩ := h
  refine cq_inc (ls' := [some (.ref r0), some (.int (iI (x1 + 1)))]) dX6_run_42 rfl (Nat.le_of_ble_eq_true rfl) rfl ?_
  refine cq_goto (t := 9) dX6_run_45 (by decide) ?_
  exact h
theorem c73_59 {c : CS} {Q : Rs → CS → Prop} {r0 : Nat} {l1 : Option Value}
    (h : yK c r0 = 8 ∧ ∃ b2, yP c r0 4 = some b2 ∧ (yK c r0 = 8 ∧ yK c b2 = 3 ∧ CW g B O 11 0 [some (.ref b2), some (.int (iI (yI c r0 3))), none] [] c (CK g B O 73 70 [some (.ref r0), l1] [] Q false)))  :
    CW g B O 73 59 [some (.ref r0), l1] [] c Q := by
  refine cq_R (fun hRc => ?_)
  refine cq_g (pc' := 60) (ls' := [some (.ref r0), l1]) (st' := [.ref r0]) dX6_run_59 (fun _ _ => rfl) ?_
  obtain ⟨hK1, b2, hP, h⟩ := h
  refine cq_getP dX6_run_60 rfl (by decide) rfl (by unfold plK; decide) hK1 hP ?_
  refine cq_g (pc' := 64) (ls' := [some (.ref r0), l1]) (st' := [.ref r0, .ref b2]) dX6_run_63 (fun _ _ => rfl) ?_
  obtain ⟨hK3, h⟩ := h
  refine cq_getI dX6_run_64 rfl (by decide) rfl (by unfold plK; decide) hK3 ?_
  obtain ⟨hK4, h⟩ := h
  exact cq_call (th := false) (rest := []) (ls2 := [some (.ref b2), some (.int (iI (yI c r0 3))), none]) (pc' := 70) dX6_run_67 (fun _ _ => ex_calV rfl (by decide)) rfl (Nat.le_of_ble_eq_true rfl) (Nat.le_of_ble_eq_true rfl) (Nat.le_of_ble_eq_true rfl) (cr_rcv rfl rfl (by decide) hK4) rfl rfl rfl (fun q => nomatch q) h
theorem c73_70 {c : CS} {Q : Rs → CS → Prop} {r0 : Nat} {l1 : Option Value}
    (h : yK c r0 = 8 ∧ ∃ b2, yP c r0 4 = some b2 ∧ (yK c b2 = 3 ∧ CW g B O 13 0 [some (.ref b2), none] [] c (CK g B O 73 77 [some (.ref r0), l1] [] Q false)))  :
    CW g B O 73 70 [some (.ref r0), l1] [] c Q := by
  refine cq_R (fun hRc => ?_)
  refine cq_g (pc' := 71) (ls' := [some (.ref r0), l1]) (st' := [.ref r0]) dX6_run_70 (fun _ _ => rfl) ?_
  obtain ⟨hK1, b2, hP, h⟩ := h
  refine cq_getP dX6_run_71 rfl (by decide) rfl (by unfold plK; decide) hK1 hP ?_
  obtain ⟨hK3, h⟩ := h
  exact cq_call (th := false) (rest := []) (ls2 := [some (.ref b2), none]) (pc' := 77) dX6_run_74 (fun _ _ => ex_calV rfl (by decide)) rfl (Nat.le_of_ble_eq_true rfl) (Nat.le_of_ble_eq_true rfl) (Nat.le_of_ble_eq_true rfl) (cr_rcv rfl rfl (by decide) hK3) rfl rfl rfl (fun q => nomatch q) h
theorem c73_77 {c : CS} {Q : Rs → CS → Prop} {r0 : Nat} {l1 : Option Value}
    (h : CW g B O 73 79 [some (.ref r0), some (.int (iI 0))] [] c Q)  :
    CW g B O 73 77 [some (.ref r0), l1] [] c Q := by
  refine cq_R (fun hRc => ?_)
  refine cq_ic dX6_run_77 ?_
  refine cq_g (pc' := 79) (ls' := [some (.ref r0), some (.int (iI 0))]) (st' := []) dX6_run_78 (fun _ _ => rfl) ?_
  exact h
theorem c73_79 {c : CS} {Q : Rs → CS → Prop} {r0 : Nat} {x1 : Int}
    (h : yK c r0 = 8 ∧ ∃ b2, yP c r0 4 = some b2 ∧ (yK c b2 = 3 ∧ CW g B O 6 0 [some (.ref b2)] [] c (CK g B O 73 87 [some (.ref r0), some (.int (iI x1))] [.int (iI x1)] Q false))) (hx1 : (-2147483648 : Int) ≤ x1 ∧ x1 ≤ 2147483647 := by omega) :
    CW g B O 73 79 [some (.ref r0), some (.int (iI x1))] [] c Q := by
  refine cq_R (fun hRc => ?_)
  refine cq_g (pc' := 80) (ls' := [some (.ref r0), some (.int (iI x1))]) (st' := [.int (iI x1)]) dX6_run_79 (fun _ _ => rfl) ?_
  refine cq_g (pc' := 81) (ls' := [some (.ref r0), some (.int (iI x1))]) (st' := [.ref r0, .int (iI x1)]) dX6_run_80 (fun _ _ => rfl) ?_
  obtain ⟨hK1, b2, hP, h⟩ := h
  refine cq_getP dX6_run_81 rfl (by decide) rfl (by unfold plK; decide) hK1 hP ?_
  obtain ⟨hK3, h⟩ := h
  exact cq_call (th := false) (rest := [.int (iI x1)]) (ls2 := [some (.ref b2)]) (pc' := 87) dX6_run_84 (fun _ _ => ex_calV rfl (by decide)) rfl (Nat.le_of_ble_eq_true rfl) (Nat.le_of_ble_eq_true rfl) (Nat.le_of_ble_eq_true rfl) (cr_rcv rfl rfl (by decide) hK3) rfl rfl rfl (fun q => nomatch q) h
theorem c73_87 {c : CS} {Q : Rs → CS → Prop} {r0 : Nat} {x1 : Int} {u0 : Int} {u1 : Int}
    (h : (u0 ≤ u1 → yK c r0 = 8 ∧ ∃ b2, yP c r0 4 = some b2 ∧ (yK c b2 = 3 ∧ CW g B O 15 0 [some (.ref b2), none, none, none, none] [] c (CK g B O 73 119 [some (.ref r0), some (.int (iI x1))] [] Q false))) ∧ (u1 < u0 → yK c r0 = 8 ∧ ∃ b5, yP c r0 4 = some b5 ∧ (yK c b5 = 3 ∧ CW g B O 7 0 [some (.ref b5), some (.int (iI x1))] [] c (CK g B O 73 98 [some (.ref r0), some (.int (iI x1))] [] Q false)))) (hx1 : (-2147483648 : Int) ≤ x1 ∧ x1 ≤ 2147483647 := by omega) (hu0 : (-2147483648 : Int) ≤ u0 ∧ u0 ≤ 2147483647 := by omega) (hu1 : (-2147483648 : Int) ≤ u1 ∧ u1 ≤ 2147483647 := by omega) :
    CW g B O 73 87 [some (.ref r0), some (.int (iI x1))] [.int (iI u0), .int (iI u1)] c Q := by
  refine cq_R (fun hRc => ?_)
  obtain ⟨h1, h2⟩ := h
  refine cq_icmp (t := 112) dX6_run_87 (by decide) (d_ge hu1 hu0) (fun q => ?_) (fun q => ?_)
  · have h := h1 q
    refine cq_g (pc' := 113) (ls' := [some (.ref r0), some (.int (iI x1))]) (st' := [.ref r0]) dX6_run_112 (fun _ _ => rfl) ?_
    obtain ⟨hK1, b2, hP, h⟩ := h
    refine cq_getP dX6_run_113 rfl (by decide) rfl (by unfold plK; decide) hK1 hP ?_
    obtain ⟨hK3, h⟩ := h
    exact cq_call (th := false) (rest := []) (ls2 := [some (.ref b2), none, none, none, none]) (pc' := 119) dX6_run_116 (fun _ _ => ex_calV rfl (by decide)) rfl (Nat.le_of_ble_eq_true rfl) (Nat.le_of_ble_eq_true rfl) (Nat.le_of_ble_eq_true rfl) (cr_rcv rfl rfl (by decide) hK3) rfl rfl rfl (fun q => nomatch q) h
  · have h := h2 (Int.not_le.mp q)
    refine cq_g (pc' := 91) (ls' := [some (.ref r0), some (.int (iI x1))]) (st' := [.ref r0]) dX6_run_90 (fun _ _ => rfl) ?_
    obtain ⟨hK4, b5, hP, h⟩ := h
    refine cq_getP dX6_run_91 rfl (by decide) rfl (by unfold plK; decide) hK4 hP ?_
    refine cq_g (pc' := 95) (ls' := [some (.ref r0), some (.int (iI x1))]) (st' := [.int (iI x1), .ref b5]) dX6_run_94 (fun _ _ => rfl) ?_
    obtain ⟨hK6, h⟩ := h
    exact cq_call (th := false) (rest := []) (ls2 := [some (.ref b5), some (.int (iI x1))]) (pc' := 98) dX6_run_95 (fun _ _ => ex_calV rfl (by decide)) rfl (Nat.le_of_ble_eq_true rfl) (Nat.le_of_ble_eq_true rfl) (Nat.le_of_ble_eq_true rfl) (cr_rcv rfl rfl (by decide) hK6) rfl rfl rfl (fun q => nomatch q) h
theorem c73_98 {c : CS} {Q : Rs → CS → Prop} {r0 : Nat} {x1 : Int} {w0 : Nat}
    (h : yK c r0 = 8 ∧ yK c w0 = 6 ∧ CW g B O 46 0 [some (.ref w0), some (.int (iI (yI c r0 3))), some (.int (iI x1)), none] [] c (CK g B O 73 106 [some (.ref r0), some (.int (iI x1))] [] Q false)) (hx1 : (-2147483648 : Int) ≤ x1 ∧ x1 ≤ 2147483647 := by omega) :
    CW g B O 73 98 [some (.ref r0), some (.int (iI x1))] [.ref w0] c Q := by
  refine cq_R (fun hRc => ?_)
  refine cq_g (pc' := 99) (ls' := [some (.ref r0), some (.int (iI x1))]) (st' := [.ref r0, .ref w0]) dX6_run_98 (fun _ _ => rfl) ?_
  obtain ⟨hK1, h⟩ := h
  refine cq_getI dX6_run_99 rfl (by decide) rfl (by unfold plK; decide) hK1 ?_
  refine cq_g (pc' := 103) (ls' := [some (.ref r0), some (.int (iI x1))]) (st' := [.int (iI x1), .int (iI (yI c r0 3)), .ref w0]) dX6_run_102 (fun _ _ => rfl) ?_
  obtain ⟨hK2, h⟩ := h
  exact cq_call (th := false) (rest := []) (ls2 := [some (.ref w0), some (.int (iI (yI c r0 3))), some (.int (iI x1)), none]) (pc' := 106) dX6_run_103 (fun _ _ => ex_calV rfl (by decide)) rfl (Nat.le_of_ble_eq_true rfl) (Nat.le_of_ble_eq_true rfl) (Nat.le_of_ble_eq_true rfl) (cr_rcv rfl rfl (by decide) hK2) rfl rfl rfl (fun q => nomatch q) h
theorem c73_106 {c : CS} {Q : Rs → CS → Prop} {r0 : Nat} {x1 : Int}
    (h : ((-2147483648 : Int) ≤ x1 + 1 ∧ x1 + 1 ≤ 2147483647) ∧ CW g B O 73 79 [some (.ref r0), some (.int (iI (x1 + 1)))] [] c Q) (hx1 : (-2147483648 : Int) ≤ x1 ∧ x1 ≤ 2147483647 := by omega) :
    CW g B O 73 106 [some (.ref r0), some (.int (iI x1))] [] c Q := by
  refine cq_R (fun hRc => ?_)
  obtain ⟨hr1, h⟩ := h
  refine cq_inc (ls' := [some (.ref r0), some (.int (iI (x1 + 1)))]) dX6_run_106 rfl (Nat.le_of_ble_eq_true rfl) rfl ?_
  refine cq_goto (t := 79) dX6_run_109 (by decide) ?_
  exact h
theorem c73_119 {c : CS} {Q : Rs → CS → Prop} {r0 : Nat} {l1 : Option Value}
    (h : yK c r0 = 8 ∧ ∃ b2, yP c r0 4 = some b2 ∧ (yK c b2 = 3 ∧ CW g B O 6 0 [some (.ref b2)] [] c (CK g B O 73 126 [some (.ref r0), l1] [] Q false)))  :
    CW g B O 73 119 [some (.ref r0), l1] [] c Q := by
  refine cq_R (fun hRc => ?_)
  refine cq_g (pc' := 120) (ls' := [some (.ref r0), l1]) (st' := [.ref r0]) dX6_run_119 (fun _ _ => rfl) ?_
  obtain ⟨hK1, b2, hP, h⟩ := h
  refine cq_getP dX6_run_120 rfl (by decide) rfl (by unfold plK; decide) hK1 hP ?_
  obtain ⟨hK3, h⟩ := h
  exact cq_call (th := false) (rest := []) (ls2 := [some (.ref b2)]) (pc' := 126) dX6_run_123 (fun _ _ => ex_calV rfl (by decide)) rfl (Nat.le_of_ble_eq_true rfl) (Nat.le_of_ble_eq_true rfl) (Nat.le_of_ble_eq_true rfl) (cr_rcv rfl rfl (by decide) hK3) rfl rfl rfl (fun q => nomatch q) h
theorem c73_126 {c : CS} {Q : Rs → CS → Prop} {l0 : Option Value} {l1 : Option Value} {u0 : Int}
    (h : Q (Sum.inl (some (.int (iI u0)))) c) (hu0 : (-2147483648 : Int) ≤ u0 ∧ u0 ≤ 2147483647 := by omega) :
    CW g B O 73 126 [l0, l1] [.int (iI u0)] c Q := by
  refine cq_R (fun hRc => ?_)
  exact cq_ret dX6_run_126 rfl h
theorem c74_0 {c : CS} {Q : Rs → CS → Prop} {r0 : Nat} {x1 : Int}
    (h : yK c r0 = 8 ∧ CW g B O 82 0 [some (.ref r0), some (.int (iI x1))] [] c (CK g B O 74 5 [some (.ref r0), some (.int (iI x1))] [] Q true)) (hx1 : (-2147483648 : Int) ≤ x1 ∧ x1 ≤ 2147483647 := by omega) :
    CW g B O 74 0 [some (.ref r0), some (.int (iI x1))] [] c Q := by
  refine cq_R (fun hRc => ?_)
  refine cq_g (pc' := 1) (ls' := [some (.ref r0), some (.int (iI x1))]) (st' := [.ref r0]) dX6_row_0 (fun _ _ => rfl) ?_
  refine cq_g (pc' := 2) (ls' := [some (.ref r0), some (.int (iI x1))]) (st' := [.int (iI x1), .ref r0]) dX6_row_1 (fun _ _ => rfl) ?_
  obtain ⟨hK1, h⟩ := h
  exact cq_call (th := true) (rest := []) (ls2 := [some (.ref r0), some (.int (iI x1))]) (pc' := 5) dX6_row_2 (fun _ _ => ex_calV rfl (by decide)) rfl (Nat.le_of_ble_eq_true rfl) (Nat.le_of_ble_eq_true rfl) (Nat.le_of_ble_eq_true rfl) (cr_rcv rfl rfl (by decide) hK1) rfl rfl rfl (fun _ => ⟨by decide, by decide⟩) h
theorem c74_5 {c : CS} {Q : Rs → CS → Prop} {l0 : Option Value} {l1 : Option Value} {w0 : Nat}
    (h : yK c w0 = 6 ∧ ∃ b2, yP c w0 0 = some b2 ∧ (yK c b2 = 2 ∧ Q (Sum.inl (some (.int (iI (yI c b2 0))))) c))  :
    CW g B O 74 5 [l0, l1] [.ref w0] c Q := by
  refine cq_R (fun hRc => ?_)
  obtain ⟨hK1, b2, hP, h⟩ := h
  refine cq_getP dX6_row_5 rfl (by decide) rfl (by unfold plK; decide) hK1 hP ?_
  obtain ⟨hK3, h⟩ := h
  refine cq_getI dX6_row_8 rfl (by decide) rfl (by unfold plK; decide) hK3 ?_
  exact cq_ret dX6_row_11 rfl h
theorem c75_0 {c : CS} {Q : Rs → CS → Prop} {r0 : Nat} {x1 : Int}
    (h : yK c r0 = 8 ∧ CW g B O 82 0 [some (.ref r0), some (.int (iI x1))] [] c (CK g B O 75 5 [some (.ref r0), some (.int (iI x1))] [] Q true)) (hx1 : (-2147483648 : Int) ≤ x1 ∧ x1 ≤ 2147483647 := by omega) :
    CW g B O 75 0 [some (.ref r0), some (.int (iI x1))] [] c Q := by
  refine cq_R (fun hRc => ?_)
  refine cq_g (pc' := 1) (ls' := [some (.ref r0), some (.int (iI x1))]) (st' := [.ref r0]) dX6_letter_0 (fun _ _ => rfl) ?_
  refine cq_g (pc' := 2) (ls' := [some (.ref r0), some (.int (iI x1))]) (st' := [.int (iI x1), .ref r0]) dX6_letter_1 (fun _ _ => rfl) ?_
  obtain ⟨hK1, h⟩ := h
  exact cq_call (th := true) (rest := []) (ls2 := [some (.ref r0), some (.int (iI x1))]) (pc' := 5) dX6_letter_2 (fun _ _ => ex_calV rfl (by decide)) rfl (Nat.le_of_ble_eq_true rfl) (Nat.le_of_ble_eq_true rfl) (Nat.le_of_ble_eq_true rfl) (cr_rcv rfl rfl (by decide) hK1) rfl rfl rfl (fun _ => ⟨by decide, by decide⟩) h
theorem c75_5 {c : CS} {Q : Rs → CS → Prop} {l0 : Option Value} {l1 : Option Value} {w0 : Nat}
    (h : yK c w0 = 6 ∧ Q (Sum.inl (some (.int (iI (yI c w0 6))))) c)  :
    CW g B O 75 5 [l0, l1] [.ref w0] c Q := by
  refine cq_R (fun hRc => ?_)
  obtain ⟨hK1, h⟩ := h
  refine cq_getI dX6_letter_5 rfl (by decide) rfl (by unfold plK; decide) hK1 ?_
  exact cq_ret dX6_letter_8 rfl h
theorem c76_0 {c : CS} {Q : Rs → CS → Prop} {r0 : Nat} {x1 : Int} {x2 : Int} {x3 : Int}
    (h : yK c r0 = 8 ∧ ∃ b2, yP c r0 6 = some b2 ∧ (yK c r0 = 8 ∧ CW g B O 81 0 [some (.ref r0), some (.int (iI x1))] [] c (CK g B O 76 9 [some (.ref r0), some (.int (iI x1)), some (.int (iI x2)), some (.int (iI x3))] [.ref b2] Q true))) (hx1 : (-2147483648 : Int) ≤ x1 ∧ x1 ≤ 2147483647 := by omega) (hx2 : (-2147483648 : Int) ≤ x2 ∧ x2 ≤ 2147483647 := by omega) (hx3 : (-2147483648 : Int) ≤ x3 ∧ x3 ≤ 2147483647 := by omega) :
    CW g B O 76 0 [some (.ref r0), some (.int (iI x1)), some (.int (iI x2)), some (.int (iI x3))] [] c Q := by
  refine cq_R (fun hRc => ?_)
  refine cq_g (pc' := 1) (ls' := [some (.ref r0), some (.int (iI x1)), some (.int (iI x2)), some (.int (iI x3))]) (st' := [.ref r0]) dX6_initials_0 (fun _ _ => rfl) ?_
  obtain ⟨hK1, b2, hP, h⟩ := h
  refine cq_getP dX6_initials_1 rfl (by decide) rfl (by unfold plK; decide) hK1 hP ?_
  refine cq_g (pc' := 5) (ls' := [some (.ref r0), some (.int (iI x1)), some (.int (iI x2)), some (.int (iI x3))]) (st' := [.ref r0, .ref b2]) dX6_initials_4 (fun _ _ => rfl) ?_
  refine cq_g (pc' := 6) (ls' := [some (.ref r0), some (.int (iI x1)), some (.int (iI x2)), some (.int (iI x3))]) (st' := [.int (iI x1), .ref r0, .ref b2]) dX6_initials_5 (fun _ _ => rfl) ?_
  obtain ⟨hK3, h⟩ := h
  exact cq_call (th := true) (rest := [.ref b2]) (ls2 := [some (.ref r0), some (.int (iI x1))]) (pc' := 9) dX6_initials_6 (fun _ _ => ex_calV rfl (by decide)) rfl (Nat.le_of_ble_eq_true rfl) (Nat.le_of_ble_eq_true rfl) (Nat.le_of_ble_eq_true rfl) (cr_rcv rfl rfl (by decide) hK3) rfl rfl rfl (fun _ => ⟨by decide, by decide⟩) h
theorem c76_9 {c : CS} {Q : Rs → CS → Prop} {r0 : Nat} {l1 : Option Value} {x2 : Int} {x3 : Int} {w0 : Nat} {w1 : Nat}
    (h : yK c w0 = 2 ∧ CW g B O 3 0 [some (.ref w0), some (.int (iI 0)), none, none, none, none] [] c (CK g B O 76 13 [some (.ref r0), l1, some (.int (iI x2)), some (.int (iI x3))] [.ref w1] Q false)) (hx2 : (-2147483648 : Int) ≤ x2 ∧ x2 ≤ 2147483647 := by omega) (hx3 : (-2147483648 : Int) ≤ x3 ∧ x3 ≤ 2147483647 := by omega) :
    CW g B O 76 9 [some (.ref r0), l1, some (.int (iI x2)), some (.int (iI x3))] [.ref w0, .ref w1] c Q := by
  refine cq_R (fun hRc => ?_)
  refine cq_ic dX6_initials_9 ?_
  obtain ⟨hK1, h⟩ := h
  exact cq_call (th := false) (rest := [.ref w1]) (ls2 := [some (.ref w0), some (.int (iI 0)), none, none, none, none]) (pc' := 13) dX6_initials_10 (fun _ _ => ex_calV rfl (by decide)) rfl (Nat.le_of_ble_eq_true rfl) (Nat.le_of_ble_eq_true rfl) (Nat.le_of_ble_eq_true rfl) (cr_rcv rfl rfl (by decide) hK1) rfl rfl rfl (fun q => nomatch q) h
theorem c76_13 {c : CS} {Q : Rs → CS → Prop} {r0 : Nat} {l1 : Option Value} {x2 : Int} {x3 : Int} {w0 : Nat} {w1 : Nat}
    (h : yK c w1 = 5 ∧ CW g B O 20 0 [some (.ref w1), some (.ref w0), none, none, none] [] c (CK g B O 76 16 [some (.ref r0), l1, some (.int (iI x2)), some (.int (iI x3))] [] Q false)) (hx2 : (-2147483648 : Int) ≤ x2 ∧ x2 ≤ 2147483647 := by omega) (hx3 : (-2147483648 : Int) ≤ x3 ∧ x3 ≤ 2147483647 := by omega) :
    CW g B O 76 13 [some (.ref r0), l1, some (.int (iI x2)), some (.int (iI x3))] [.ref w0, .ref w1] c Q := by
  refine cq_R (fun hRc => ?_)
  obtain ⟨hK1, h⟩ := h
  exact cq_call (th := false) (rest := []) (ls2 := [some (.ref w1), some (.ref w0), none, none, none]) (pc' := 16) dX6_initials_13 (fun _ _ => ex_calV rfl (by decide)) rfl (Nat.le_of_ble_eq_true rfl) (Nat.le_of_ble_eq_true rfl) (Nat.le_of_ble_eq_true rfl) (cr_rcv rfl rfl (by decide) hK1) rfl rfl rfl (fun q => nomatch q) h
theorem c76_16 {c : CS} {Q : Rs → CS → Prop} {r0 : Nat} {l1 : Option Value} {x2 : Int} {x3 : Int}
    (h : (x2 < 0 → CW g B O 76 31 [some (.ref r0), l1, some (.int (iI x2)), some (.int (iI x3))] [] c Q) ∧ (0 ≤ x2 → yK c r0 = 8 ∧ ∃ b2, yP c r0 6 = some b2 ∧ (yK c b2 = 5 ∧ CW g B O 19 0 [some (.ref b2)] [] c (CK g B O 76 28 [some (.ref r0), l1, some (.int (iI x2)), some (.int (iI x3))] [.int (iI x2)] Q false)))) (hx2 : (-2147483648 : Int) ≤ x2 ∧ x2 ≤ 2147483647 := by omega) (hx3 : (-2147483648 : Int) ≤ x3 ∧ x3 ≤ 2147483647 := by omega) :
    CW g B O 76 16 [some (.ref r0), l1, some (.int (iI x2)), some (.int (iI x3))] [] c Q := by
  refine cq_R (fun hRc => ?_)
  refine cq_g (pc' := 17) (ls' := [some (.ref r0), l1, some (.int (iI x2)), some (.int (iI x3))]) (st' := [.int (iI x2)]) dX6_initials_16 (fun _ _ => rfl) ?_
  obtain ⟨h1, h2⟩ := h
  refine cq_if (t := 31) dX6_initials_17 (by decide) (d_lt hx2 (by decide)) (fun q => ?_) (fun q => ?_)
  · have h := h1 q
    exact h
  · have h := h2 (Int.not_lt.mp q)
    refine cq_g (pc' := 21) (ls' := [some (.ref r0), l1, some (.int (iI x2)), some (.int (iI x3))]) (st' := [.int (iI x2)]) dX6_initials_20 (fun _ _ => rfl) ?_
    refine cq_g (pc' := 22) (ls' := [some (.ref r0), l1, some (.int (iI x2)), some (.int (iI x3))]) (st' := [.ref r0, .int (iI x2)]) dX6_initials_21 (fun _ _ => rfl) ?_
    obtain ⟨hK1, b2, hP, h⟩ := h
    refine cq_getP dX6_initials_22 rfl (by decide) rfl (by unfold plK; decide) hK1 hP ?_
    obtain ⟨hK3, h⟩ := h
    exact cq_call (th := false) (rest := [.int (iI x2)]) (ls2 := [some (.ref b2)]) (pc' := 28) dX6_initials_25 (fun _ _ => ex_calV rfl (by decide)) rfl (Nat.le_of_ble_eq_true rfl) (Nat.le_of_ble_eq_true rfl) (Nat.le_of_ble_eq_true rfl) (cr_rcv rfl rfl (by decide) hK3) rfl rfl rfl (fun q => nomatch q) h
theorem c76_28 {c : CS} {Q : Rs → CS → Prop} {r0 : Nat} {l1 : Option Value} {x2 : Int} {x3 : Int} {u0 : Int} {u1 : Int}
    (h : (u1 < u0 → yK c r0 = 8 ∧ ∃ b2, yP c r0 7 = some b2 ∧ (yK c b2 = 7 ∧ (∀ d4, d4 = wT c b2 [] → yK d4 r0 = 8 ∧ ∃ b6, yP d4 r0 6 = some b6 ∧ (yK d4 r0 = 8 ∧ ∃ b8, yP d4 r0 7 = some b8 ∧ (yK d4 b6 = 5 ∧ CW g B O 33 0 [some (.ref b6), some (.int (iI x2)), some (.ref b8), none, none] [] d4 (CK g B O 76 60 [some (.ref r0), l1, some (.int (iI x2)), some (.int (iI x3))] [] Q false)))))) ∧ (u0 ≤ u1 → CW g B O 76 31 [some (.ref r0), l1, some (.int (iI x2)), some (.int (iI x3))] [] c Q)) (hx2 : (-2147483648 : Int) ≤ x2 ∧ x2 ≤ 2147483647 := by omega) (hx3 : (-2147483648 : Int) ≤ x3 ∧ x3 ≤ 2147483647 := by omega) (hu0 : (-2147483648 : Int) ≤ u0 ∧ u0 ≤ 2147483647 := by omega) (hu1 : (-2147483648 : Int) ≤ u1 ∧ u1 ≤ 2147483647 := by omega) :
    CW g B O 76 28 [some (.ref r0), l1, some (.int (iI x2)), some (.int (iI x3))] [.int (iI u0), .int (iI u1)] c Q := by
  refine cq_R (fun hRc => ?_)
  obtain ⟨h1, h2⟩ := h
  refine cq_icmp (t := 41) dX6_initials_28 (by decide) (d_lt hu1 hu0) (fun q => ?_) (fun q => ?_)
  · have h := h1 q
    refine cq_g (pc' := 42) (ls' := [some (.ref r0), l1, some (.int (iI x2)), some (.int (iI x3))]) (st' := [.ref r0]) dX6_initials_41 (fun _ _ => rfl) ?_
    obtain ⟨hK1, b2, hP, h⟩ := h
    refine cq_getP dX6_initials_42 rfl (by decide) rfl (by unfold plK; decide) hK1 hP ?_
    obtain ⟨hK3, h⟩ := h
    refine cq_call (th := false) (rest := []) (ls2 := [some (.ref b2)]) (pc' := 48) dX6_initials_45 (fun _ _ => ex_calV rfl (by decide)) rfl (Nat.le_of_ble_eq_true rfl) (Nat.le_of_ble_eq_true rfl) (Nat.le_of_ble_eq_true rfl) (cr_rcv rfl rfl (by decide) hK3) rfl rfl rfl (fun q => nomatch q) (t53 hK3 ?_)
    show CW g B O 76 48 [some (.ref r0), l1, some (.int (iI x2)), some (.int (iI x3))] [] (wT c b2 []) Q
    generalize ed4 : wT c b2 [] = d4
    replace h := h _ ed4.symm
    refine cq_R (fun hRd4 => ?_)
    refine cq_g (pc' := 49) (ls' := [some (.ref r0), l1, some (.int (iI x2)), some (.int (iI x3))]) (st' := [.ref r0]) dX6_initials_48 (fun _ _ => rfl) ?_
    obtain ⟨hK5, b6, hP, h⟩ := h
    refine cq_getP dX6_initials_49 rfl (by decide) rfl (by unfold plK; decide) hK5 hP ?_
    refine cq_g (pc' := 53) (ls' := [some (.ref r0), l1, some (.int (iI x2)), some (.int (iI x3))]) (st' := [.int (iI x2), .ref b6]) dX6_initials_52 (fun _ _ => rfl) ?_
    refine cq_g (pc' := 54) (ls' := [some (.ref r0), l1, some (.int (iI x2)), some (.int (iI x3))]) (st' := [.ref r0, .int (iI x2), .ref b6]) dX6_initials_53 (fun _ _ => rfl) ?_
    obtain ⟨hK7, b8, hP, h⟩ := h
    refine cq_getP dX6_initials_54 rfl (by decide) rfl (by unfold plK; decide) hK7 hP ?_
    obtain ⟨hK9, h⟩ := h
    exact cq_call (th := false) (rest := []) (ls2 := [some (.ref b6), some (.int (iI x2)), some (.ref b8), none, none]) (pc' := 60) dX6_initials_57 (fun _ _ => ex_calV rfl (by decide)) rfl (Nat.le_of_ble_eq_true rfl) (Nat.le_of_ble_eq_true rfl) (Nat.le_of_ble_eq_true rfl) (cr_rcv rfl rfl (by decide) hK9) rfl rfl rfl (fun q => nomatch q) h
  · have h := h2 (Int.not_lt.mp q)
    exact h
theorem c76_31 {c : CS} {Q : Rs → CS → Prop} {l0 : Option Value} {l1 : Option Value} {l2 : Option Value} {l3 : Option Value}
    (h : (yU c + 8 ≤ B) ∧ Q (Sum.inr 1) c)  :
    CW g B O 76 31 [l0, l1, l2, l3] [] c Q := by
  refine cq_R (fun hRc => ?_)
  exact cq_thr rfl (Nat.le_of_ble_eq_true rfl) (Nat.le_of_ble_eq_true rfl) (Nat.le_of_ble_eq_true rfl) h.1 h.2
theorem c76_60 {c : CS} {Q : Rs → CS → Prop} {r0 : Nat} {l1 : Option Value} {l2 : Option Value} {x3 : Int}
    (h : (¬ x3 = (-1) → yK c r0 = 8 ∧ ∃ b2, yP c r0 7 = some b2 ∧ (CW g B O 85 0 [some (.ref b2), some (.int (iI x3))] [] c (CK g B O 76 83 [some (.ref r0), l1, l2, some (.int (iI x3))] [] Q true))) ∧ (x3 = (-1) → yK c r0 = 8 ∧ ∃ b5, yP c r0 7 = some b5 ∧ (yK c b5 = 7 ∧ CW g B O 76 83 [some (.ref r0), l1, l2, some (.int (iI x3))] [.int (iI ((yT c b5).length : Int))] c Q))) (hx3 : (-2147483648 : Int) ≤ x3 ∧ x3 ≤ 2147483647 := by omega) :
    CW g B O 76 60 [some (.ref r0), l1, l2, some (.int (iI x3))] [] c Q := by
  refine cq_R (fun hRc => ?_)
  refine cq_g (pc' := 61) (ls' := [some (.ref r0), l1, l2, some (.int (iI x3))]) (st' := [.int (iI x3)]) dX6_initials_60 (fun _ _ => rfl) ?_
  refine cq_ic dX6_initials_61 ?_
  obtain ⟨h1, h2⟩ := h
  refine cq_icmp (t := 75) dX6_initials_62 (by decide) (d_ne hx3 (by decide)) (fun q => ?_) (fun q => ?_)
  · have h := h1 q
    refine cq_g (pc' := 76) (ls' := [some (.ref r0), l1, l2, some (.int (iI x3))]) (st' := [.ref r0]) dX6_initials_75 (fun _ _ => rfl) ?_
    obtain ⟨hK1, b2, hP, h⟩ := h
    refine cq_getP dX6_initials_76 rfl (by decide) rfl (by unfold plK; decide) hK1 hP ?_
    refine cq_g (pc' := 80) (ls' := [some (.ref r0), l1, l2, some (.int (iI x3))]) (st' := [.int (iI x3), .ref b2]) dX6_initials_79 (fun _ _ => rfl) ?_
    exact cq_call (th := true) (rest := []) (ls2 := [some (.ref b2), some (.int (iI x3))]) (pc' := 83) dX6_initials_80 (fun _ _ => ex_calS rfl (by decide)) rfl (Nat.le_of_ble_eq_true rfl) (Nat.le_of_ble_eq_true rfl) (Nat.le_of_ble_eq_true rfl) (fun _ _ => rfl) rfl rfl rfl (fun _ => ⟨by decide, by decide⟩) h
  · have h := h2 (Decidable.of_not_not q)
    refine cq_g (pc' := 66) (ls' := [some (.ref r0), l1, l2, some (.int (iI x3))]) (st' := [.ref r0]) dX6_initials_65 (fun _ _ => rfl) ?_
    obtain ⟨hK4, b5, hP, h⟩ := h
    refine cq_getP dX6_initials_66 rfl (by decide) rfl (by unfold plK; decide) hK4 hP ?_
    obtain ⟨hK6, h⟩ := h
    refine cq_call (th := false) (rest := []) (ls2 := [some (.ref b5)]) (pc' := 72) dX6_initials_69 (fun _ _ => ex_calV rfl (by decide)) rfl (Nat.le_of_ble_eq_true rfl) (Nat.le_of_ble_eq_true rfl) (Nat.le_of_ble_eq_true rfl) (cr_rcv rfl rfl (by decide) hK6) rfl rfl rfl (fun q => nomatch q) (t54 hK6 ?_)
    show CW g B O 76 72 [some (.ref r0), l1, l2, some (.int (iI x3))] [.int (iI ((yT c b5).length : Int))] c Q
    refine cq_goto (t := 83) dX6_initials_72 (by decide) ?_
    exact h
theorem c76_83 {c : CS} {Q : Rs → CS → Prop} {l0 : Option Value} {l1 : Option Value} {l2 : Option Value} {l3 : Option Value} {u0 : Int}
    (h : Q (Sum.inl (some (.int (iI u0)))) c) (hu0 : (-2147483648 : Int) ≤ u0 ∧ u0 ≤ 2147483647 := by omega) :
    CW g B O 76 83 [l0, l1, l2, l3] [.int (iI u0)] c Q := by
  refine cq_R (fun hRc => ?_)
  exact cq_ret dX6_initials_83 rfl h
theorem c77_0 {c : CS} {Q : Rs → CS → Prop} {r0 : Nat} {x1 : Int} {x2 : Int}
    (h : (¬ x1 = (-1) → (x1 < 0 → CW g B O 77 37 [some (.ref r0), some (.int (iI x1)), some (.int (iI x2))] [] c Q) ∧ (0 ≤ x1 → yK c r0 = 8 ∧ ∃ b2, yP c r0 4 = some b2 ∧ (yK c b2 = 3 ∧ (yI c b2 5 ≤ x1 → CW g B O 77 37 [some (.ref r0), some (.int (iI x1)), some (.int (iI x2))] [] c Q) ∧ (x1 < yI c b2 5 → (x2 < 0 → CW g B O 77 37 [some (.ref r0), some (.int (iI x1)), some (.int (iI x2))] [] c Q) ∧ (0 ≤ x2 → (x2 ≤ 1 → (¬ x2 = 0 → yK c r0 = 8 ∧ ∃ b5, yP c r0 4 = some b5 ∧ (yK c b5 = 3 ∧ ∃ b7, yP c b5 4 = some b7 ∧ (yK c b7 = 101 ∧ ((0 : Int) ≤ x1 ∧ x1 < yI c b7 (-1)) ∧ CW g B O 77 72 [some (.ref r0), some (.int (iI x1)), some (.int (iI x2))] [.int (iI (yI c b7 x1))] c Q))) ∧ (x2 = 0 → yK c r0 = 8 ∧ ∃ b11, yP c r0 4 = some b11 ∧ (yK c b11 = 3 ∧ ∃ b13, yP c b11 3 = some b13 ∧ (yK c b13 = 101 ∧ ((0 : Int) ≤ x1 ∧ x1 < yI c b13 (-1)) ∧ CW g B O 77 72 [some (.ref r0), some (.int (iI x1)), some (.int (iI x2))] [.int (iI (yI c b13 x1))] c Q)))) ∧ (1 < x2 → CW g B O 77 37 [some (.ref r0), some (.int (iI x1)), some (.int (iI x2))] [] c Q)))))) ∧ (x1 = (-1) → yK c r0 = 8 ∧ ∃ b17, yP c r0 4 = some b17 ∧ (yK c b17 = 3 ∧ Q (Sum.inl (some (.int (iI (yI c b17 5))))) c))) (hx1 : (-2147483648 : Int) ≤ x1 ∧ x1 ≤ 2147483647 := by omega) (hx2 : (-2147483648 : Int) ≤ x2 ∧ x2 ≤ 2147483647 := by omega) :
    CW g B O 77 0 [some (.ref r0), some (.int (iI x1)), some (.int (iI x2))] [] c Q := by
  refine cq_R (fun hRc => ?_)
  refine cq_g (pc' := 1) (ls' := [some (.ref r0), some (.int (iI x1)), some (.int (iI x2))]) (st' := [.int (iI x1)]) dX6_missing_0 (fun _ _ => rfl) ?_
  refine cq_ic dX6_missing_1 ?_
  obtain ⟨h1, h2⟩ := h
  refine cq_icmp (t := 13) dX6_missing_2 (by decide) (d_ne hx1 (by decide)) (fun q => ?_) (fun q => ?_)
  · have h := h1 q
    refine cq_g (pc' := 14) (ls' := [some (.ref r0), some (.int (iI x1)), some (.int (iI x2))]) (st' := [.int (iI x1)]) dX6_missing_13 (fun _ _ => rfl) ?_
    obtain ⟨h1, h2⟩ := h
    refine cq_if (t := 37) dX6_missing_14 (by decide) (d_lt hx1 (by decide)) (fun q => ?_) (fun q => ?_)
    · have h := h1 q
      exact h
    · have h := h2 (Int.not_lt.mp q)
      refine cq_g (pc' := 18) (ls' := [some (.ref r0), some (.int (iI x1)), some (.int (iI x2))]) (st' := [.int (iI x1)]) dX6_missing_17 (fun _ _ => rfl) ?_
      refine cq_g (pc' := 19) (ls' := [some (.ref r0), some (.int (iI x1)), some (.int (iI x2))]) (st' := [.ref r0, .int (iI x1)]) dX6_missing_18 (fun _ _ => rfl) ?_
      obtain ⟨hK1, b2, hP, h⟩ := h
      refine cq_getP dX6_missing_19 rfl (by decide) rfl (by unfold plK; decide) hK1 hP ?_
      obtain ⟨hK3, h⟩ := h
      refine cq_getI dX6_missing_22 rfl (by decide) rfl (by unfold plK; decide) hK3 ?_
      obtain ⟨h1, h2⟩ := h
      refine cq_icmp (t := 37) dX6_missing_25 (by decide) (d_ge hx1 (hRc.1 _ _)) (fun q => ?_) (fun q => ?_)
      · have h := h1 q
        exact h
      · have h := h2 (Int.not_le.mp q)
        refine cq_g (pc' := 29) (ls' := [some (.ref r0), some (.int (iI x1)), some (.int (iI x2))]) (st' := [.int (iI x2)]) dX6_missing_28 (fun _ _ => rfl) ?_
        obtain ⟨h1, h2⟩ := h
        refine cq_if (t := 37) dX6_missing_29 (by decide) (d_lt hx2 (by decide)) (fun q => ?_) (fun q => ?_)
        · have h := h1 q
          exact h
        · have h := h2 (Int.not_lt.mp q)
          refine cq_g (pc' := 33) (ls' := [some (.ref r0), some (.int (iI x1)), some (.int (iI x2))]) (st' := [.int (iI x2)]) dX6_missing_32 (fun _ _ => rfl) ?_
          refine cq_ic dX6_missing_33 ?_
          obtain ⟨h1, h2⟩ := h
          refine cq_icmp (t := 47) dX6_missing_34 (by decide) (d_le hx2 (by decide)) (fun q => ?_) (fun q => ?_)
          · have h := h1 q
            refine cq_g (pc' := 48) (ls' := [some (.ref r0), some (.int (iI x1)), some (.int (iI x2))]) (st' := [.int (iI x2)]) dX6_missing_47 (fun _ _ => rfl) ?_
            obtain ⟨h1, h2⟩ := h
            refine cq_if (t := 63) dX6_missing_48 (by decide) (d_ne hx2 (by decide)) (fun q => ?_) (fun q => ?_)
            · have h := h1 q
              refine cq_g (pc' := 64) (ls' := [some (.ref r0), some (.int (iI x1)), some (.int (iI x2))]) (st' := [.ref r0]) dX6_missing_63 (fun _ _ => rfl) ?_
              obtain ⟨hK4, b5, hP, h⟩ := h
              refine cq_getP dX6_missing_64 rfl (by decide) rfl (by unfold plK; decide) hK4 hP ?_
              obtain ⟨hK6, b7, hP, h⟩ := h
              refine cq_getP dX6_missing_67 rfl (by decide) rfl (by unfold plK; decide) hK6 hP ?_
              refine cq_g (pc' := 71) (ls' := [some (.ref r0), some (.int (iI x1)), some (.int (iI x2))]) (st' := [.int (iI x1), .ref b7]) dX6_missing_70 (fun _ _ => rfl) ?_
              obtain ⟨hK9, hx8, h⟩ := h
              refine cq_iald dX6_missing_71 hK9 hx8 ?_
              exact h
            · have h := h2 (Decidable.of_not_not q)
              refine cq_g (pc' := 52) (ls' := [some (.ref r0), some (.int (iI x1)), some (.int (iI x2))]) (st' := [.ref r0]) dX6_missing_51 (fun _ _ => rfl) ?_
              obtain ⟨hK10, b11, hP, h⟩ := h
              refine cq_getP dX6_missing_52 rfl (by decide) rfl (by unfold plK; decide) hK10 hP ?_
              obtain ⟨hK12, b13, hP, h⟩ := h
              refine cq_getP dX6_missing_55 rfl (by decide) rfl (by unfold plK; decide) hK12 hP ?_
              refine cq_g (pc' := 59) (ls' := [some (.ref r0), some (.int (iI x1)), some (.int (iI x2))]) (st' := [.int (iI x1), .ref b13]) dX6_missing_58 (fun _ _ => rfl) ?_
              obtain ⟨hK15, hx14, h⟩ := h
              refine cq_iald dX6_missing_59 hK15 hx14 ?_
              refine cq_goto (t := 72) dX6_missing_60 (by decide) ?_
              exact h
          · have h := h2 (Int.not_le.mp q)
            exact h
  · have h := h2 (Decidable.of_not_not q)
    refine cq_g (pc' := 6) (ls' := [some (.ref r0), some (.int (iI x1)), some (.int (iI x2))]) (st' := [.ref r0]) dX6_missing_5 (fun _ _ => rfl) ?_
    obtain ⟨hK16, b17, hP, h⟩ := h
    refine cq_getP dX6_missing_6 rfl (by decide) rfl (by unfold plK; decide) hK16 hP ?_
    obtain ⟨hK18, h⟩ := h
    refine cq_getI dX6_missing_9 rfl (by decide) rfl (by unfold plK; decide) hK18 ?_
    exact cq_ret dX6_missing_12 rfl h
theorem c77_37 {c : CS} {Q : Rs → CS → Prop} {l0 : Option Value} {l1 : Option Value} {l2 : Option Value}
    (h : (yU c + 8 ≤ B) ∧ Q (Sum.inr 1) c)  :
    CW g B O 77 37 [l0, l1, l2] [] c Q := by
  refine cq_R (fun hRc => ?_)
  exact cq_thr rfl (Nat.le_of_ble_eq_true rfl) (Nat.le_of_ble_eq_true rfl) (Nat.le_of_ble_eq_true rfl) h.1 h.2
theorem c77_72 {c : CS} {Q : Rs → CS → Prop} {l0 : Option Value} {l1 : Option Value} {l2 : Option Value} {u0 : Int}
    (h : Q (Sum.inl (some (.int (iI u0)))) c) (hu0 : (-2147483648 : Int) ≤ u0 ∧ u0 ≤ 2147483647 := by omega) :
    CW g B O 77 72 [l0, l1, l2] [.int (iI u0)] c Q := by
  refine cq_R (fun hRc => ?_)
  exact cq_ret dX6_missing_72 rfl h
theorem c78_0 {c : CS} {Q : Rs → CS → Prop} {r0 : Nat} {x1 : Int} {l2 : Option Value}
    (h : (¬ x1 = (-1) → yK c r0 = 8 ∧ CW g B O 82 0 [some (.ref r0), some (.int (iI x1))] [] c (CK g B O 78 17 [some (.ref r0), some (.int (iI x1)), l2] [] Q true)) ∧ (x1 = (-1) → yK c r0 = 8 ∧ CW g B O 84 0 [some (.ref r0)] [] c (CK g B O 78 9 [some (.ref r0), some (.int (iI x1)), l2] [] Q true))) (hx1 : (-2147483648 : Int) ≤ x1 ∧ x1 ≤ 2147483647 := by omega) :
    CW g B O 78 0 [some (.ref r0), some (.int (iI x1)), l2] [] c Q := by
  refine cq_R (fun hRc => ?_)
  refine cq_g (pc' := 1) (ls' := [some (.ref r0), some (.int (iI x1)), l2]) (st' := [.int (iI x1)]) dX6_print_0 (fun _ _ => rfl) ?_
  refine cq_ic dX6_print_1 ?_
  obtain ⟨h1, h2⟩ := h
  refine cq_icmp (t := 12) dX6_print_2 (by decide) (d_ne hx1 (by decide)) (fun q => ?_) (fun q => ?_)
  · have h := h1 q
    refine cq_g (pc' := 13) (ls' := [some (.ref r0), some (.int (iI x1)), l2]) (st' := [.ref r0]) dX6_print_12 (fun _ _ => rfl) ?_
    refine cq_g (pc' := 14) (ls' := [some (.ref r0), some (.int (iI x1)), l2]) (st' := [.int (iI x1), .ref r0]) dX6_print_13 (fun _ _ => rfl) ?_
    obtain ⟨hK1, h⟩ := h
    exact cq_call (th := true) (rest := []) (ls2 := [some (.ref r0), some (.int (iI x1))]) (pc' := 17) dX6_print_14 (fun _ _ => ex_calV rfl (by decide)) rfl (Nat.le_of_ble_eq_true rfl) (Nat.le_of_ble_eq_true rfl) (Nat.le_of_ble_eq_true rfl) (cr_rcv rfl rfl (by decide) hK1) rfl rfl rfl (fun _ => ⟨by decide, by decide⟩) h
  · have h := h2 (Decidable.of_not_not q)
    refine cq_g (pc' := 6) (ls' := [some (.ref r0), some (.int (iI x1)), l2]) (st' := [.ref r0]) dX6_print_5 (fun _ _ => rfl) ?_
    obtain ⟨hK2, h⟩ := h
    exact cq_call (th := true) (rest := []) (ls2 := [some (.ref r0)]) (pc' := 9) dX6_print_6 (fun _ _ => ex_calV rfl (by decide)) rfl (Nat.le_of_ble_eq_true rfl) (Nat.le_of_ble_eq_true rfl) (Nat.le_of_ble_eq_true rfl) (cr_rcv rfl rfl (by decide) hK2) rfl rfl rfl (fun _ => ⟨by decide, by decide⟩) h
theorem c78_9 {c : CS} {Q : Rs → CS → Prop} {r0 : Nat} {l1 : Option Value} {l2 : Option Value}
    (h : CW g B O 78 36 [some (.ref r0), l1, l2] [] c Q)  :
    CW g B O 78 9 [some (.ref r0), l1, l2] [] c Q := by
  refine cq_R (fun hRc => ?_)
  refine cq_goto (t := 36) dX6_print_9 (by decide) ?_
  exact h
theorem c78_17 {c : CS} {Q : Rs → CS → Prop} {r0 : Nat} {l1 : Option Value} {l2 : Option Value} {w0 : Nat}
    (h : yK c w0 = 6 ∧ ∃ b2, yP c w0 7 = some b2 ∧ (yK c r0 = 8 ∧ ∃ b4, yP c r0 5 = some b4 ∧ (yK c b4 = 7 ∧ (∀ d6, d6 = wT c b4 [] → yK d6 r0 = 8 ∧ ∃ b8, yP d6 r0 5 = some b8 ∧ (yK d6 b8 = 7 ∧ yK d6 b2 = 7 ∧ (yT d6 b8).length + (yT d6 b2).length ≤ 1024 ∧ (∀ d12, d12 = wT d6 b8 (yT d6 b8 ++ yT d6 b2) → CW g B O 78 36 [some (.ref r0), (clr l1), some (.ref b2)] [] d12 Q))))))  :
    CW g B O 78 17 [some (.ref r0), l1, l2] [.ref w0] c Q := by
  refine cq_R (fun hRc => ?_)
  obtain ⟨hK1, b2, hP, h⟩ := h
  refine cq_getP dX6_print_17 rfl (by decide) rfl (by unfold plK; decide) hK1 hP ?_
  refine cq_g (pc' := 21) (ls' := [some (.ref r0), (clr l1), some (.ref b2)]) (st' := []) dX6_print_20 (fun _ _ => rfl) ?_
  refine cq_g (pc' := 22) (ls' := [some (.ref r0), (clr l1), some (.ref b2)]) (st' := [.ref r0]) dX6_print_21 (fun _ _ => rfl) ?_
  obtain ⟨hK3, b4, hP, h⟩ := h
  refine cq_getP dX6_print_22 rfl (by decide) rfl (by unfold plK; decide) hK3 hP ?_
  obtain ⟨hK5, h⟩ := h
  refine cq_call (th := false) (rest := []) (ls2 := [some (.ref b4)]) (pc' := 28) dX6_print_25 (fun _ _ => ex_calV rfl (by decide)) rfl (Nat.le_of_ble_eq_true rfl) (Nat.le_of_ble_eq_true rfl) (Nat.le_of_ble_eq_true rfl) (cr_rcv rfl rfl (by decide) hK5) rfl rfl rfl (fun q => nomatch q) (t53 hK5 ?_)
  show CW g B O 78 28 [some (.ref r0), (clr l1), some (.ref b2)] [] (wT c b4 []) Q
  generalize ed6 : wT c b4 [] = d6
  replace h := h _ ed6.symm
  refine cq_R (fun hRd6 => ?_)
  refine cq_g (pc' := 29) (ls' := [some (.ref r0), (clr l1), some (.ref b2)]) (st' := [.ref r0]) dX6_print_28 (fun _ _ => rfl) ?_
  obtain ⟨hK7, b8, hP, h⟩ := h
  refine cq_getP dX6_print_29 rfl (by decide) rfl (by unfold plK; decide) hK7 hP ?_
  refine cq_g (pc' := 33) (ls' := [some (.ref r0), (clr l1), some (.ref b2)]) (st' := [.ref b2, .ref b8]) dX6_print_32 (fun _ _ => rfl) ?_
  obtain ⟨hK9, hK10, hl11, h⟩ := h
  refine cq_call (th := false) (rest := []) (ls2 := [some (.ref b8), some (.ref b2)]) (pc' := 36) dX6_print_33 (fun _ _ => ex_calV rfl (by decide)) rfl (Nat.le_of_ble_eq_true rfl) (Nat.le_of_ble_eq_true rfl) (Nat.le_of_ble_eq_true rfl) (cr_rcv rfl rfl (by decide) hK9) rfl rfl rfl (fun q => nomatch q) (t60 hK9 hK10 hl11 ?_)
  show CW g B O 78 36 [some (.ref r0), (clr l1), some (.ref b2)] [] (wT d6 b8 (yT d6 b8 ++ yT d6 b2)) Q
  generalize ed12 : wT d6 b8 (yT d6 b8 ++ yT d6 b2) = d12
  replace h := h _ ed12.symm
  refine cq_R (fun hRd12 => ?_)
  exact h
theorem c78_36 {c : CS} {Q : Rs → CS → Prop} {r0 : Nat} {l1 : Option Value} {l2 : Option Value}
    (h : yK c r0 = 8 ∧ ∃ b2, yP c r0 5 = some b2 ∧ (yK c b2 = 7 ∧ Q (Sum.inl (some (.int (iI ((yT c b2).length : Int))))) c))  :
    CW g B O 78 36 [some (.ref r0), l1, l2] [] c Q := by
  refine cq_R (fun hRc => ?_)
  refine cq_g (pc' := 37) (ls' := [some (.ref r0), l1, l2]) (st' := [.ref r0]) dX6_print_36 (fun _ _ => rfl) ?_
  obtain ⟨hK1, b2, hP, h⟩ := h
  refine cq_getP dX6_print_37 rfl (by decide) rfl (by unfold plK; decide) hK1 hP ?_
  obtain ⟨hK3, h⟩ := h
  refine cq_call (th := false) (rest := []) (ls2 := [some (.ref b2)]) (pc' := 43) dX6_print_40 (fun _ _ => ex_calV rfl (by decide)) rfl (Nat.le_of_ble_eq_true rfl) (Nat.le_of_ble_eq_true rfl) (Nat.le_of_ble_eq_true rfl) (cr_rcv rfl rfl (by decide) hK3) rfl rfl rfl (fun q => nomatch q) (t54 hK3 ?_)
  show CW g B O 78 43 [some (.ref r0), l1, l2] [.int (iI ((yT c b2).length : Int))] c Q
  exact cq_ret dX6_print_43 rfl h
theorem c79_0 {c : CS} {Q : Rs → CS → Prop} {r0 : Nat} {x1 : Int}
    (h : yK c r0 = 8 ∧ ∃ b2, yP c r0 5 = some b2 ∧ (CW g B O 85 0 [some (.ref b2), some (.int (iI x1))] [] c (CK g B O 79 8 [some (.ref r0), some (.int (iI x1))] [] Q true))) (hx1 : (-2147483648 : Int) ≤ x1 ∧ x1 ≤ 2147483647 := by omega) :
    CW g B O 79 0 [some (.ref r0), some (.int (iI x1))] [] c Q := by
  refine cq_R (fun hRc => ?_)
  refine cq_g (pc' := 1) (ls' := [some (.ref r0), some (.int (iI x1))]) (st' := [.ref r0]) dX6_at_0 (fun _ _ => rfl) ?_
  obtain ⟨hK1, b2, hP, h⟩ := h
  refine cq_getP dX6_at_1 rfl (by decide) rfl (by unfold plK; decide) hK1 hP ?_
  refine cq_g (pc' := 5) (ls' := [some (.ref r0), some (.int (iI x1))]) (st' := [.int (iI x1), .ref b2]) dX6_at_4 (fun _ _ => rfl) ?_
  exact cq_call (th := true) (rest := []) (ls2 := [some (.ref b2), some (.int (iI x1))]) (pc' := 8) dX6_at_5 (fun _ _ => ex_calS rfl (by decide)) rfl (Nat.le_of_ble_eq_true rfl) (Nat.le_of_ble_eq_true rfl) (Nat.le_of_ble_eq_true rfl) (fun _ _ => rfl) rfl rfl rfl (fun _ => ⟨by decide, by decide⟩) h
theorem c79_8 {c : CS} {Q : Rs → CS → Prop} {l0 : Option Value} {l1 : Option Value} {u0 : Int}
    (h : Q (Sum.inl (some (.int (iI u0)))) c) (hu0 : (-2147483648 : Int) ≤ u0 ∧ u0 ≤ 2147483647 := by omega) :
    CW g B O 79 8 [l0, l1] [.int (iI u0)] c Q := by
  refine cq_R (fun hRc => ?_)
  exact cq_ret dX6_at_8 rfl h
theorem c80_0 {c : CS} {Q : Rs → CS → Prop} {r0 : Nat} {x1 : Int} {l2 : Option Value} {l3 : Option Value} {l4 : Option Value}
    (h : CW g B O 80 4 [some (.ref r0), some (.int (iI x1)), some (.int (iI 0)), some (.int (iI 0)), l4] [] c Q) (hx1 : (-2147483648 : Int) ≤ x1 ∧ x1 ≤ 2147483647 := by omega) :
    CW g B O 80 0 [some (.ref r0), some (.int (iI x1)), l2, l3, l4] [] c Q := by
  refine cq_R (fun hRc => ?_)
  refine cq_ic dX6_twice_0 ?_
  refine cq_g (pc' := 2) (ls' := [some (.ref r0), some (.int (iI x1)), some (.int (iI 0)), l3, l4]) (st' := []) dX6_twice_1 (fun _ _ => rfl) ?_
  refine cq_ic dX6_twice_2 ?_
  refine cq_g (pc' := 4) (ls' := [some (.ref r0), some (.int (iI x1)), some (.int (iI 0)), some (.int (iI 0)), l4]) (st' := []) dX6_twice_3 (fun _ _ => rfl) ?_
  exact h
theorem c80_4 {c : CS} {Q : Rs → CS → Prop} {r0 : Nat} {x1 : Int} {x2 : Int} {x3 : Int} {l4 : Option Value}
    (h : yK c r0 = 8 ∧ ∃ b2, yP c r0 0 = some b2 ∧ (yK c b2 = 1 ∧ (((yE c b2).length : Int) ≤ x3 → (x1 = (-1) → Q (Sum.inl (some (.int (iI x2)))) c) ∧ (¬ x1 = (-1) → (yU c + 8 ≤ B) ∧ Q (Sum.inr 1) c)) ∧ (x3 < ((yE c b2).length : Int) → yK c r0 = 8 ∧ ∃ b5, yP c r0 0 = some b5 ∧ (yK c b5 = 1 ∧ ((0 : Int) ≤ x3 ∧ x3 < (yE c b5).length) ∧ ∃ b8, (yE c b5).getD (x3).toNat 0 = b8 ∧ (yK c b8 = 2 ∧ yK c r0 = 8 ∧ CW g B O 83 0 [some (.ref r0), some (.ref b8), none] [] c (CK g B O 80 34 [some (.ref r0), some (.int (iI x1)), some (.int (iI x2)), some (.int (iI x3)), some (.ref b8)] [] Q true)))))) (hx1 : (-2147483648 : Int) ≤ x1 ∧ x1 ≤ 2147483647 := by omega) (hx2 : (-2147483648 : Int) ≤ x2 ∧ x2 ≤ 2147483647 := by omega) (hx3 : (-2147483648 : Int) ≤ x3 ∧ x3 ≤ 2147483647 := by omega) :
    CW g B O 80 4 [some (.ref r0), some (.int (iI x1)), some (.int (iI x2)), some (.int (iI x3)), l4] [] c Q := by
  refine cq_R (fun hRc => ?_)
  refine cq_g (pc' := 5) (ls' := [some (.ref r0), some (.int (iI x1)), some (.int (iI x2)), some (.int (iI x3)), l4]) (st' := [.int (iI x3)]) dX6_twice_4 (fun _ _ => rfl) ?_
  refine cq_g (pc' := 6) (ls' := [some (.ref r0), some (.int (iI x1)), some (.int (iI x2)), some (.int (iI x3)), l4]) (st' := [.ref r0, .int (iI x3)]) dX6_twice_5 (fun _ _ => rfl) ?_
  obtain ⟨hK1, b2, hP, h⟩ := h
  refine cq_getP dX6_twice_6 rfl (by decide) rfl (by unfold plK; decide) hK1 hP ?_
  obtain ⟨hK3, h⟩ := h
  refine cq_call (th := false) (rest := [.int (iI x3)]) (ls2 := [some (.ref b2)]) (pc' := 12) dX6_twice_9 (fun _ _ => ex_calV rfl (by decide)) rfl (Nat.le_of_ble_eq_true rfl) (Nat.le_of_ble_eq_true rfl) (Nat.le_of_ble_eq_true rfl) (cr_rcv rfl rfl (by decide) hK3) rfl rfl rfl (fun q => nomatch q) (t161 hK3 ?_)
  show CW g B O 80 12 [some (.ref r0), some (.int (iI x1)), some (.int (iI x2)), some (.int (iI x3)), l4] [.int (iI ((yE c b2).length : Int)), .int (iI x3)] c Q
  obtain ⟨h1, h2⟩ := h
  refine cq_icmp (t := 55) dX6_twice_12 (by decide) (d_ge hx3 (crE hRc hK3)) (fun q => ?_) (fun q => ?_)
  · have h := h1 q
    refine cq_g (pc' := 56) (ls' := [some (.ref r0), some (.int (iI x1)), some (.int (iI x2)), some (.int (iI x3)), l4]) (st' := [.int (iI x1)]) dX6_twice_55 (fun _ _ => rfl) ?_
    refine cq_ic dX6_twice_56 ?_
    obtain ⟨h1, h2⟩ := h
    refine cq_icmp (t := 70) dX6_twice_57 (by decide) (d_eq hx1 (by decide)) (fun q => ?_) (fun q => ?_)
    · have h := h1 q
      refine cq_g (pc' := 71) (ls' := [some (.ref r0), some (.int (iI x1)), some (.int (iI x2)), some (.int (iI x3)), l4]) (st' := [.int (iI x2)]) dX6_twice_70 (fun _ _ => rfl) ?_
      exact cq_ret dX6_twice_71 rfl h
    · have h := h2 q
      exact cq_thr rfl (Nat.le_of_ble_eq_true rfl) (Nat.le_of_ble_eq_true rfl) (Nat.le_of_ble_eq_true rfl) h.1 h.2
  · have h := h2 (Int.not_le.mp q)
    refine cq_g (pc' := 16) (ls' := [some (.ref r0), some (.int (iI x1)), some (.int (iI x2)), some (.int (iI x3)), l4]) (st' := [.ref r0]) dX6_twice_15 (fun _ _ => rfl) ?_
    obtain ⟨hK4, b5, hP, h⟩ := h
    refine cq_getP dX6_twice_16 rfl (by decide) rfl (by unfold plK; decide) hK4 hP ?_
    refine cq_g (pc' := 20) (ls' := [some (.ref r0), some (.int (iI x1)), some (.int (iI x2)), some (.int (iI x3)), l4]) (st' := [.int (iI x3), .ref b5]) dX6_twice_19 (fun _ _ => rfl) ?_
    obtain ⟨hK6, hx7, b8, hb9, h⟩ := h
    refine cq_call (th := false) (rest := []) (ls2 := [some (.ref b5), some (.int (iI x3))]) (pc' := 23) dX6_twice_20 (fun _ _ => ex_calV rfl (by decide)) rfl (Nat.le_of_ble_eq_true rfl) (Nat.le_of_ble_eq_true rfl) (Nat.le_of_ble_eq_true rfl) (cr_rcv rfl rfl (by decide) hK6) rfl rfl rfl (fun q => nomatch q) (t163 (x := x3) hK6 hx7 ?_)
    rw [hb9]
    show CW g B O 80 23 [some (.ref r0), some (.int (iI x1)), some (.int (iI x2)), some (.int (iI x3)), l4] [.ref b8] c Q
    obtain ⟨hK10, h⟩ := h
    refine cq_chk dX6_twice_23 rfl (by decide) hK10 ?_
    refine cq_g (pc' := 28) (ls' := [some (.ref r0), some (.int (iI x1)), some (.int (iI x2)), some (.int (iI x3)), some (.ref b8)]) (st' := []) dX6_twice_26 (fun _ _ => rfl) ?_
    refine cq_g (pc' := 29) (ls' := [some (.ref r0), some (.int (iI x1)), some (.int (iI x2)), some (.int (iI x3)), some (.ref b8)]) (st' := [.ref r0]) dX6_twice_28 (fun _ _ => rfl) ?_
    refine cq_g (pc' := 31) (ls' := [some (.ref r0), some (.int (iI x1)), some (.int (iI x2)), some (.int (iI x3)), some (.ref b8)]) (st' := [.ref b8, .ref r0]) dX6_twice_29 (fun _ _ => rfl) ?_
    obtain ⟨hK11, h⟩ := h
    exact cq_call (th := true) (rest := []) (ls2 := [some (.ref r0), some (.ref b8), none]) (pc' := 34) dX6_twice_31 (fun _ _ => ex_calV rfl (by decide)) rfl (Nat.le_of_ble_eq_true rfl) (Nat.le_of_ble_eq_true rfl) (Nat.le_of_ble_eq_true rfl) (cr_rcv rfl rfl (by decide) hK11) rfl rfl rfl (fun _ => ⟨by decide, by decide⟩) h
theorem c80_34 {c : CS} {Q : Rs → CS → Prop} {r0 : Nat} {x1 : Int} {x2 : Int} {x3 : Int} {r4 : Nat} {w0 : Nat}
    (h : (w0 = r4 → CW g B O 80 49 [some (.ref r0), some (.int (iI x1)), some (.int (iI x2)), some (.int (iI x3)), some (.ref r4)] [] c Q) ∧ (¬ w0 = r4 → (¬ x2 = x1 → ((-2147483648 : Int) ≤ x2 + 1 ∧ x2 + 1 ≤ 2147483647) ∧ CW g B O 80 49 [some (.ref r0), some (.int (iI x1)), some (.int (iI (x2 + 1))), some (.int (iI x3)), some (.ref r4)] [] c Q) ∧ (x2 = x1 → Q (Sum.inl (some (.int (iI x3)))) c))) (hx1 : (-2147483648 : Int) ≤ x1 ∧ x1 ≤ 2147483647 := by omega) (hx2 : (-2147483648 : Int) ≤ x2 ∧ x2 ≤ 2147483647 := by omega) (hx3 : (-2147483648 : Int) ≤ x3 ∧ x3 ≤ 2147483647 := by omega) :
    CW g B O 80 34 [some (.ref r0), some (.int (iI x1)), some (.int (iI x2)), some (.int (iI x3)), some (.ref r4)] [.ref w0] c Q := by
  refine cq_R (fun hRc => ?_)
  refine cq_g (pc' := 36) (ls' := [some (.ref r0), some (.int (iI x1)), some (.int (iI x2)), some (.int (iI x3)), some (.ref r4)]) (st' := [.ref r4, .ref w0]) dX6_twice_34 (fun _ _ => rfl) ?_
  obtain ⟨h1, h2⟩ := h
  refine cq_aeq (t := 49) dX6_twice_36 (by decide) (fun q => ?_) (fun q => ?_)
  · have h := h1 q
    exact h
  · have h := h2 q
    refine cq_g (pc' := 40) (ls' := [some (.ref r0), some (.int (iI x1)), some (.int (iI x2)), some (.int (iI x3)), some (.ref r4)]) (st' := [.int (iI x2)]) dX6_twice_39 (fun _ _ => rfl) ?_
    refine cq_g (pc' := 41) (ls' := [some (.ref r0), some (.int (iI x1)), some (.int (iI x2)), some (.int (iI x3)), some (.ref r4)]) (st' := [.int (iI x1), .int (iI x2)]) dX6_twice_40 (fun _ _ => rfl) ?_
    obtain ⟨h1, h2⟩ := h
    refine cq_icmp (t := 46) dX6_twice_41 (by decide) (d_ne hx2 hx1) (fun q => ?_) (fun q => ?_)
    · have h := h1 q
      obtain ⟨hr1, h⟩ := h
      refine cq_inc (ls' := [some (.ref r0), some (.int (iI x1)), some (.int (iI (x2 + 1))), some (.int (iI x3)), some (.ref r4)]) dX6_twice_46 rfl (Nat.le_of_ble_eq_true rfl) rfl ?_
      exact h
    · have h := h2 (Decidable.of_not_not q)
      refine cq_g (pc' := 45) (ls' := [some (.ref r0), some (.int (iI x1)), some (.int (iI x2)), some (.int (iI x3)), some (.ref r4)]) (st' := [.int (iI x3)]) dX6_twice_44 (fun _ _ => rfl) ?_
      exact cq_ret dX6_twice_45 rfl h
theorem c80_49 {c : CS} {Q : Rs → CS → Prop} {r0 : Nat} {x1 : Int} {x2 : Int} {x3 : Int} {l4 : Option Value}
    (h : ((-2147483648 : Int) ≤ x3 + 1 ∧ x3 + 1 ≤ 2147483647) ∧ CW g B O 80 4 [some (.ref r0), some (.int (iI x1)), some (.int (iI x2)), some (.int (iI (x3 + 1))), l4] [] c Q) (hx1 : (-2147483648 : Int) ≤ x1 ∧ x1 ≤ 2147483647 := by omega) (hx2 : (-2147483648 : Int) ≤ x2 ∧ x2 ≤ 2147483647 := by omega) (hx3 : (-2147483648 : Int) ≤ x3 ∧ x3 ≤ 2147483647 := by omega) :
    CW g B O 80 49 [some (.ref r0), some (.int (iI x1)), some (.int (iI x2)), some (.int (iI x3)), l4] [] c Q := by
  refine cq_R (fun hRc => ?_)
  obtain ⟨hr1, h⟩ := h
  refine cq_inc (ls' := [some (.ref r0), some (.int (iI x1)), some (.int (iI x2)), some (.int (iI (x3 + 1))), l4]) dX6_twice_49 rfl (Nat.le_of_ble_eq_true rfl) rfl ?_
  refine cq_goto (t := 4) dX6_twice_52 (by decide) ?_
  exact h
theorem c81_0 {c : CS} {Q : Rs → CS → Prop} {r0 : Nat} {x1 : Int}
    (h : (x1 < 0 → CW g B O 81 15 [some (.ref r0), some (.int (iI x1))] [] c Q) ∧ (0 ≤ x1 → yK c r0 = 8 ∧ ∃ b2, yP c r0 0 = some b2 ∧ (yK c b2 = 1 ∧ (x1 < ((yE c b2).length : Int) → yK c r0 = 8 ∧ ∃ b5, yP c r0 0 = some b5 ∧ (yK c b5 = 1 ∧ ((0 : Int) ≤ x1 ∧ x1 < (yE c b5).length) ∧ ∃ b8, (yE c b5).getD (x1).toNat 0 = b8 ∧ (yK c b8 = 2 ∧ Q (Sum.inl (some (.ref b8))) c))) ∧ (((yE c b2).length : Int) ≤ x1 → CW g B O 81 15 [some (.ref r0), some (.int (iI x1))] [] c Q)))) (hx1 : (-2147483648 : Int) ≤ x1 ∧ x1 ≤ 2147483647 := by omega) :
    CW g B O 81 0 [some (.ref r0), some (.int (iI x1))] [] c Q := by
  refine cq_R (fun hRc => ?_)
  refine cq_g (pc' := 1) (ls' := [some (.ref r0), some (.int (iI x1))]) (st' := [.int (iI x1)]) dX6_entryNumbered_0 (fun _ _ => rfl) ?_
  obtain ⟨h1, h2⟩ := h
  refine cq_if (t := 15) dX6_entryNumbered_1 (by decide) (d_lt hx1 (by decide)) (fun q => ?_) (fun q => ?_)
  · have h := h1 q
    exact h
  · have h := h2 (Int.not_lt.mp q)
    refine cq_g (pc' := 5) (ls' := [some (.ref r0), some (.int (iI x1))]) (st' := [.int (iI x1)]) dX6_entryNumbered_4 (fun _ _ => rfl) ?_
    refine cq_g (pc' := 6) (ls' := [some (.ref r0), some (.int (iI x1))]) (st' := [.ref r0, .int (iI x1)]) dX6_entryNumbered_5 (fun _ _ => rfl) ?_
    obtain ⟨hK1, b2, hP, h⟩ := h
    refine cq_getP dX6_entryNumbered_6 rfl (by decide) rfl (by unfold plK; decide) hK1 hP ?_
    obtain ⟨hK3, h⟩ := h
    refine cq_call (th := false) (rest := [.int (iI x1)]) (ls2 := [some (.ref b2)]) (pc' := 12) dX6_entryNumbered_9 (fun _ _ => ex_calV rfl (by decide)) rfl (Nat.le_of_ble_eq_true rfl) (Nat.le_of_ble_eq_true rfl) (Nat.le_of_ble_eq_true rfl) (cr_rcv rfl rfl (by decide) hK3) rfl rfl rfl (fun q => nomatch q) (t161 hK3 ?_)
    show CW g B O 81 12 [some (.ref r0), some (.int (iI x1))] [.int (iI ((yE c b2).length : Int)), .int (iI x1)] c Q
    obtain ⟨h1, h2⟩ := h
    refine cq_icmp (t := 25) dX6_entryNumbered_12 (by decide) (d_lt hx1 (crE hRc hK3)) (fun q => ?_) (fun q => ?_)
    · have h := h1 q
      refine cq_g (pc' := 26) (ls' := [some (.ref r0), some (.int (iI x1))]) (st' := [.ref r0]) dX6_entryNumbered_25 (fun _ _ => rfl) ?_
      obtain ⟨hK4, b5, hP, h⟩ := h
      refine cq_getP dX6_entryNumbered_26 rfl (by decide) rfl (by unfold plK; decide) hK4 hP ?_
      refine cq_g (pc' := 30) (ls' := [some (.ref r0), some (.int (iI x1))]) (st' := [.int (iI x1), .ref b5]) dX6_entryNumbered_29 (fun _ _ => rfl) ?_
      obtain ⟨hK6, hx7, b8, hb9, h⟩ := h
      refine cq_call (th := false) (rest := []) (ls2 := [some (.ref b5), some (.int (iI x1))]) (pc' := 33) dX6_entryNumbered_30 (fun _ _ => ex_calV rfl (by decide)) rfl (Nat.le_of_ble_eq_true rfl) (Nat.le_of_ble_eq_true rfl) (Nat.le_of_ble_eq_true rfl) (cr_rcv rfl rfl (by decide) hK6) rfl rfl rfl (fun q => nomatch q) (t163 (x := x1) hK6 hx7 ?_)
      rw [hb9]
      show CW g B O 81 33 [some (.ref r0), some (.int (iI x1))] [.ref b8] c Q
      obtain ⟨hK10, h⟩ := h
      refine cq_chk dX6_entryNumbered_33 rfl (by decide) hK10 ?_
      exact cq_aret dX6_entryNumbered_36 rfl h
    · have h := h2 (Int.not_lt.mp q)
      exact h
theorem c81_15 {c : CS} {Q : Rs → CS → Prop} {l0 : Option Value} {l1 : Option Value}
    (h : (yU c + 8 ≤ B) ∧ Q (Sum.inr 0) c)  :
    CW g B O 81 15 [l0, l1] [] c Q := by
  refine cq_R (fun hRc => ?_)
  exact cq_thr rfl (Nat.le_of_ble_eq_true rfl) (Nat.le_of_ble_eq_true rfl) (Nat.le_of_ble_eq_true rfl) h.1 h.2
theorem c82_0 {c : CS} {Q : Rs → CS → Prop} {r0 : Nat} {x1 : Int}
    (h : (x1 < 0 → CW g B O 82 15 [some (.ref r0), some (.int (iI x1))] [] c Q) ∧ (0 ≤ x1 → yK c r0 = 8 ∧ ∃ b2, yP c r0 4 = some b2 ∧ (yK c b2 = 3 ∧ CW g B O 6 0 [some (.ref b2)] [] c (CK g B O 82 12 [some (.ref r0), some (.int (iI x1))] [.int (iI x1)] Q false)))) (hx1 : (-2147483648 : Int) ≤ x1 ∧ x1 ≤ 2147483647 := by omega) :
    CW g B O 82 0 [some (.ref r0), some (.int (iI x1))] [] c Q := by
  refine cq_R (fun hRc => ?_)
  refine cq_g (pc' := 1) (ls' := [some (.ref r0), some (.int (iI x1))]) (st' := [.int (iI x1)]) dX6_rowAt_0 (fun _ _ => rfl) ?_
  obtain ⟨h1, h2⟩ := h
  refine cq_if (t := 15) dX6_rowAt_1 (by decide) (d_lt hx1 (by decide)) (fun q => ?_) (fun q => ?_)
  · have h := h1 q
    exact h
  · have h := h2 (Int.not_lt.mp q)
    refine cq_g (pc' := 5) (ls' := [some (.ref r0), some (.int (iI x1))]) (st' := [.int (iI x1)]) dX6_rowAt_4 (fun _ _ => rfl) ?_
    refine cq_g (pc' := 6) (ls' := [some (.ref r0), some (.int (iI x1))]) (st' := [.ref r0, .int (iI x1)]) dX6_rowAt_5 (fun _ _ => rfl) ?_
    obtain ⟨hK1, b2, hP, h⟩ := h
    refine cq_getP dX6_rowAt_6 rfl (by decide) rfl (by unfold plK; decide) hK1 hP ?_
    obtain ⟨hK3, h⟩ := h
    exact cq_call (th := false) (rest := [.int (iI x1)]) (ls2 := [some (.ref b2)]) (pc' := 12) dX6_rowAt_9 (fun _ _ => ex_calV rfl (by decide)) rfl (Nat.le_of_ble_eq_true rfl) (Nat.le_of_ble_eq_true rfl) (Nat.le_of_ble_eq_true rfl) (cr_rcv rfl rfl (by decide) hK3) rfl rfl rfl (fun q => nomatch q) h
theorem c82_12 {c : CS} {Q : Rs → CS → Prop} {r0 : Nat} {x1 : Int} {u0 : Int} {u1 : Int}
    (h : (u1 < u0 → yK c r0 = 8 ∧ ∃ b2, yP c r0 4 = some b2 ∧ (yK c b2 = 3 ∧ CW g B O 7 0 [some (.ref b2), some (.int (iI x1))] [] c (CK g B O 82 33 [some (.ref r0), some (.int (iI x1))] [] Q false))) ∧ (u0 ≤ u1 → CW g B O 82 15 [some (.ref r0), some (.int (iI x1))] [] c Q)) (hx1 : (-2147483648 : Int) ≤ x1 ∧ x1 ≤ 2147483647 := by omega) (hu0 : (-2147483648 : Int) ≤ u0 ∧ u0 ≤ 2147483647 := by omega) (hu1 : (-2147483648 : Int) ≤ u1 ∧ u1 ≤ 2147483647 := by omega) :
    CW g B O 82 12 [some (.ref r0), some (.int (iI x1))] [.int (iI u0), .int (iI u1)] c Q := by
  refine cq_R (fun hRc => ?_)
  obtain ⟨h1, h2⟩ := h
  refine cq_icmp (t := 25) dX6_rowAt_12 (by decide) (d_lt hu1 hu0) (fun q => ?_) (fun q => ?_)
  · have h := h1 q
    refine cq_g (pc' := 26) (ls' := [some (.ref r0), some (.int (iI x1))]) (st' := [.ref r0]) dX6_rowAt_25 (fun _ _ => rfl) ?_
    obtain ⟨hK1, b2, hP, h⟩ := h
    refine cq_getP dX6_rowAt_26 rfl (by decide) rfl (by unfold plK; decide) hK1 hP ?_
    refine cq_g (pc' := 30) (ls' := [some (.ref r0), some (.int (iI x1))]) (st' := [.int (iI x1), .ref b2]) dX6_rowAt_29 (fun _ _ => rfl) ?_
    obtain ⟨hK3, h⟩ := h
    exact cq_call (th := false) (rest := []) (ls2 := [some (.ref b2), some (.int (iI x1))]) (pc' := 33) dX6_rowAt_30 (fun _ _ => ex_calV rfl (by decide)) rfl (Nat.le_of_ble_eq_true rfl) (Nat.le_of_ble_eq_true rfl) (Nat.le_of_ble_eq_true rfl) (cr_rcv rfl rfl (by decide) hK3) rfl rfl rfl (fun q => nomatch q) h
  · have h := h2 (Int.not_lt.mp q)
    exact h
theorem c82_15 {c : CS} {Q : Rs → CS → Prop} {l0 : Option Value} {l1 : Option Value}
    (h : (yU c + 8 ≤ B) ∧ Q (Sum.inr 1) c)  :
    CW g B O 82 15 [l0, l1] [] c Q := by
  refine cq_R (fun hRc => ?_)
  exact cq_thr rfl (Nat.le_of_ble_eq_true rfl) (Nat.le_of_ble_eq_true rfl) (Nat.le_of_ble_eq_true rfl) h.1 h.2
theorem c82_33 {c : CS} {Q : Rs → CS → Prop} {l0 : Option Value} {l1 : Option Value} {w0 : Nat}
    (h : Q (Sum.inl (some (.ref w0))) c)  :
    CW g B O 82 33 [l0, l1] [.ref w0] c Q := by
  refine cq_R (fun hRc => ?_)
  exact cq_aret dX6_rowAt_33 rfl h
theorem c83_0 {c : CS} {Q : Rs → CS → Prop} {r0 : Nat} {r1 : Nat} {l2 : Option Value}
    (h : yK c r1 = 2 ∧ ∃ b2, yP c r1 2 = some b2 ∧ (yK c b2 = 7 ∧ (yT c b2 = [] → Q (Sum.inl (some (.ref r1))) c) ∧ (¬ yT c b2 = [] → CW g B O 83 14 [some (.ref r0), some (.ref r1), some (.int (iI 0))] [] c Q)))  :
    CW g B O 83 0 [some (.ref r0), some (.ref r1), l2] [] c Q := by
  refine cq_R (fun hRc => ?_)
  refine cq_g (pc' := 1) (ls' := [some (.ref r0), some (.ref r1), l2]) (st' := [.ref r1]) dX6_realOne_0 (fun _ _ => rfl) ?_
  obtain ⟨hK1, b2, hP, h⟩ := h
  refine cq_getP dX6_realOne_1 rfl (by decide) rfl (by unfold plK; decide) hK1 hP ?_
  obtain ⟨hK3, h1, h2⟩ := h
  refine cq_call (th := false) (rest := []) (ls2 := [some (.ref b2)]) (pc' := 7) dX6_realOne_4 (fun _ _ => ex_calV rfl (by decide)) rfl (Nat.le_of_ble_eq_true rfl) (Nat.le_of_ble_eq_true rfl) (Nat.le_of_ble_eq_true rfl) (cr_rcv rfl rfl (by decide) hK3) rfl rfl rfl (fun q => nomatch q) (t55 hK3 (fun q => ?_) (fun q => ?_))
  · have h := h1 q
    show CW g B O 83 7 [some (.ref r0), some (.ref r1), l2] [.int (iI 1)] c Q
    refine cq_if (t := 12) dX6_realOne_7 (by decide) (d_eq (by decide) (by decide)) (fun q => absurd q (by decide)) (fun _ => ?_)
    refine cq_g (pc' := 11) (ls' := [some (.ref r0), some (.ref r1), l2]) (st' := [.ref r1]) dX6_realOne_10 (fun _ _ => rfl) ?_
    exact cq_aret dX6_realOne_11 rfl h
  · have h := h2 q
    show CW g B O 83 7 [some (.ref r0), some (.ref r1), l2] [.int (iI 0)] c Q
    refine cq_if (t := 12) dX6_realOne_7 (by decide) (d_eq (by decide) (by decide)) (fun _ => ?_) (fun q => absurd rfl q)
    refine cq_ic dX6_realOne_12 ?_
    refine cq_g (pc' := 14) (ls' := [some (.ref r0), some (.ref r1), some (.int (iI 0))]) (st' := []) dX6_realOne_13 (fun _ _ => rfl) ?_
    exact h
theorem c83_14 {c : CS} {Q : Rs → CS → Prop} {r0 : Nat} {r1 : Nat} {x2 : Int}
    (h : yK c r1 = 2 ∧ (yI c r1 0 ≤ x2 → CW g B O 83 75 [some (.ref r0), some (.ref r1), some (.int (iI x2))] [] c Q) ∧ (x2 < yI c r1 0 → yK c r0 = 8 ∧ ∃ b3, yP c r0 0 = some b3 ∧ (yK c b3 = 1 ∧ (((yE c b3).length : Int) ≤ x2 → CW g B O 83 75 [some (.ref r0), some (.ref r1), some (.int (iI x2))] [] c Q) ∧ (x2 < ((yE c b3).length : Int) → yK c r0 = 8 ∧ ∃ b6, yP c r0 0 = some b6 ∧ (yK c b6 = 1 ∧ ((0 : Int) ≤ x2 ∧ x2 < (yE c b6).length) ∧ ∃ b9, (yE c b6).getD (x2).toNat 0 = b9 ∧ (yK c b9 = 2 ∧ yK c b9 = 2 ∧ ∃ b13, yP c b9 2 = some b13 ∧ (yK c r1 = 2 ∧ ∃ b15, yP c r1 2 = some b15 ∧ (yK c b13 = 7 ∧ yK c b15 = 7 ∧ (yT c b13 = yT c b15 → yK c r0 = 8 ∧ ∃ b19, yP c r0 0 = some b19 ∧ (yK c b19 = 1 ∧ ((0 : Int) ≤ x2 ∧ x2 < (yE c b19).length) ∧ ∃ b22, (yE c b19).getD (x2).toNat 0 = b22 ∧ (yK c b22 = 2 ∧ Q (Sum.inl (some (.ref b22))) c))) ∧ (¬ yT c b13 = yT c b15 → ((-2147483648 : Int) ≤ x2 + 1 ∧ x2 + 1 ≤ 2147483647) ∧ CW g B O 83 14 [some (.ref r0), some (.ref r1), some (.int (iI (x2 + 1)))] [] c Q))))))))) (hx2 : (-2147483648 : Int) ≤ x2 ∧ x2 ≤ 2147483647 := by omega) :
    CW g B O 83 14 [some (.ref r0), some (.ref r1), some (.int (iI x2))] [] c Q := by
  refine cq_R (fun hRc => ?_)
  refine cq_g (pc' := 15) (ls' := [some (.ref r0), some (.ref r1), some (.int (iI x2))]) (st' := [.int (iI x2)]) dX6_realOne_14 (fun _ _ => rfl) ?_
  refine cq_g (pc' := 16) (ls' := [some (.ref r0), some (.ref r1), some (.int (iI x2))]) (st' := [.ref r1, .int (iI x2)]) dX6_realOne_15 (fun _ _ => rfl) ?_
  obtain ⟨hK1, h⟩ := h
  refine cq_getI dX6_realOne_16 rfl (by decide) rfl (by unfold plK; decide) hK1 ?_
  obtain ⟨h1, h2⟩ := h
  refine cq_icmp (t := 75) dX6_realOne_19 (by decide) (d_ge hx2 (hRc.1 _ _)) (fun q => ?_) (fun q => ?_)
  · have h := h1 q
    exact h
  · have h := h2 (Int.not_le.mp q)
    refine cq_g (pc' := 23) (ls' := [some (.ref r0), some (.ref r1), some (.int (iI x2))]) (st' := [.int (iI x2)]) dX6_realOne_22 (fun _ _ => rfl) ?_
    refine cq_g (pc' := 24) (ls' := [some (.ref r0), some (.ref r1), some (.int (iI x2))]) (st' := [.ref r0, .int (iI x2)]) dX6_realOne_23 (fun _ _ => rfl) ?_
    obtain ⟨hK2, b3, hP, h⟩ := h
    refine cq_getP dX6_realOne_24 rfl (by decide) rfl (by unfold plK; decide) hK2 hP ?_
    obtain ⟨hK4, h⟩ := h
    refine cq_call (th := false) (rest := [.int (iI x2)]) (ls2 := [some (.ref b3)]) (pc' := 30) dX6_realOne_27 (fun _ _ => ex_calV rfl (by decide)) rfl (Nat.le_of_ble_eq_true rfl) (Nat.le_of_ble_eq_true rfl) (Nat.le_of_ble_eq_true rfl) (cr_rcv rfl rfl (by decide) hK4) rfl rfl rfl (fun q => nomatch q) (t161 hK4 ?_)
    show CW g B O 83 30 [some (.ref r0), some (.ref r1), some (.int (iI x2))] [.int (iI ((yE c b3).length : Int)), .int (iI x2)] c Q
    obtain ⟨h1, h2⟩ := h
    refine cq_icmp (t := 75) dX6_realOne_30 (by decide) (d_ge hx2 (crE hRc hK4)) (fun q => ?_) (fun q => ?_)
    · have h := h1 q
      exact h
    · have h := h2 (Int.not_le.mp q)
      refine cq_g (pc' := 34) (ls' := [some (.ref r0), some (.ref r1), some (.int (iI x2))]) (st' := [.ref r0]) dX6_realOne_33 (fun _ _ => rfl) ?_
      obtain ⟨hK5, b6, hP, h⟩ := h
      refine cq_getP dX6_realOne_34 rfl (by decide) rfl (by unfold plK; decide) hK5 hP ?_
      refine cq_g (pc' := 38) (ls' := [some (.ref r0), some (.ref r1), some (.int (iI x2))]) (st' := [.int (iI x2), .ref b6]) dX6_realOne_37 (fun _ _ => rfl) ?_
      obtain ⟨hK7, hx8, b9, hb10, h⟩ := h
      refine cq_call (th := false) (rest := []) (ls2 := [some (.ref b6), some (.int (iI x2))]) (pc' := 41) dX6_realOne_38 (fun _ _ => ex_calV rfl (by decide)) rfl (Nat.le_of_ble_eq_true rfl) (Nat.le_of_ble_eq_true rfl) (Nat.le_of_ble_eq_true rfl) (cr_rcv rfl rfl (by decide) hK7) rfl rfl rfl (fun q => nomatch q) (t163 (x := x2) hK7 hx8 ?_)
      rw [hb10]
      show CW g B O 83 41 [some (.ref r0), some (.ref r1), some (.int (iI x2))] [.ref b9] c Q
      obtain ⟨hK11, h⟩ := h
      refine cq_chk dX6_realOne_41 rfl (by decide) hK11 ?_
      obtain ⟨hK12, b13, hP, h⟩ := h
      refine cq_getP dX6_realOne_44 rfl (by decide) rfl (by unfold plK; decide) hK12 hP ?_
      refine cq_g (pc' := 48) (ls' := [some (.ref r0), some (.ref r1), some (.int (iI x2))]) (st' := [.ref r1, .ref b13]) dX6_realOne_47 (fun _ _ => rfl) ?_
      obtain ⟨hK14, b15, hP, h⟩ := h
      refine cq_getP dX6_realOne_48 rfl (by decide) rfl (by unfold plK; decide) hK14 hP ?_
      obtain ⟨hK16, hK17, h1, h2⟩ := h
      refine cq_call (th := false) (rest := []) (ls2 := [some (.ref b13), some (.ref b15)]) (pc' := 54) dX6_realOne_51 (fun _ _ => ex_calV rfl (by decide)) rfl (Nat.le_of_ble_eq_true rfl) (Nat.le_of_ble_eq_true rfl) (Nat.le_of_ble_eq_true rfl) (cr_rcv rfl rfl (by decide) hK16) rfl rfl rfl (fun q => nomatch q) (t65 hK16 hK17 (fun q => ?_) (fun q => ?_))
      · have h := h1 q
        show CW g B O 83 54 [some (.ref r0), some (.ref r1), some (.int (iI x2))] [.int (iI 1)] c Q
        refine cq_if (t := 69) dX6_realOne_54 (by decide) (d_eq (by decide) (by decide)) (fun q => absurd q (by decide)) (fun _ => ?_)
        refine cq_g (pc' := 58) (ls' := [some (.ref r0), some (.ref r1), some (.int (iI x2))]) (st' := [.ref r0]) dX6_realOne_57 (fun _ _ => rfl) ?_
        obtain ⟨hK18, b19, hP, h⟩ := h
        refine cq_getP dX6_realOne_58 rfl (by decide) rfl (by unfold plK; decide) hK18 hP ?_
        refine cq_g (pc' := 62) (ls' := [some (.ref r0), some (.ref r1), some (.int (iI x2))]) (st' := [.int (iI x2), .ref b19]) dX6_realOne_61 (fun _ _ => rfl) ?_
        obtain ⟨hK20, hx21, b22, hb23, h⟩ := h
        refine cq_call (th := false) (rest := []) (ls2 := [some (.ref b19), some (.int (iI x2))]) (pc' := 65) dX6_realOne_62 (fun _ _ => ex_calV rfl (by decide)) rfl (Nat.le_of_ble_eq_true rfl) (Nat.le_of_ble_eq_true rfl) (Nat.le_of_ble_eq_true rfl) (cr_rcv rfl rfl (by decide) hK20) rfl rfl rfl (fun q => nomatch q) (t163 (x := x2) hK20 hx21 ?_)
        rw [hb23]
        show CW g B O 83 65 [some (.ref r0), some (.ref r1), some (.int (iI x2))] [.ref b22] c Q
        obtain ⟨hK24, h⟩ := h
        refine cq_chk dX6_realOne_65 rfl (by decide) hK24 ?_
        exact cq_aret dX6_realOne_68 rfl h
      · have h := h2 q
        show CW g B O 83 54 [some (.ref r0), some (.ref r1), some (.int (iI x2))] [.int (iI 0)] c Q
        refine cq_if (t := 69) dX6_realOne_54 (by decide) (d_eq (by decide) (by decide)) (fun _ => ?_) (fun q => absurd rfl q)
        obtain ⟨hr25, h⟩ := h
        refine cq_inc (ls' := [some (.ref r0), some (.ref r1), some (.int (iI (x2 + 1)))]) dX6_realOne_69 rfl (Nat.le_of_ble_eq_true rfl) rfl ?_
        refine cq_goto (t := 14) dX6_realOne_72 (by decide) ?_
        exact h
theorem c83_75 {c : CS} {Q : Rs → CS → Prop} {l0 : Option Value} {r1 : Nat} {l2 : Option Value}
    (h : Q (Sum.inl (some (.ref r1))) c)  :
    CW g B O 83 75 [l0, some (.ref r1), l2] [] c Q := by
  refine cq_R (fun hRc => ?_)
  refine cq_g (pc' := 76) (ls' := [l0, some (.ref r1), l2]) (st' := [.ref r1]) dX6_realOne_75 (fun _ _ => rfl) ?_
  exact cq_aret dX6_realOne_76 rfl h
theorem c84_0 {c : CS} {Q : Rs → CS → Prop} {r0 : Nat}
    (h : yK c r0 = 8 ∧ ∃ b2, yP c r0 4 = some b2 ∧ (yK c b2 = 3 ∧ (¬ yI c b2 2 = 0 → yK c r0 = 8 ∧ ∃ b5, yP c r0 5 = some b5 ∧ (yK c b5 = 7 ∧ (∀ d7, d7 = wT c b5 [] → yK d7 r0 = 8 ∧ ∃ b9, yP d7 r0 5 = some b9 ∧ (yK d7 b9 = 7 ∧ 9 < 10 ∧ (yT d7 b9).length + (tx 9).length ≤ 1024 ∧ (∀ d13, d13 = wT d7 b9 (yT d7 b9 ++ tx 9) → yK d13 r0 = 8 ∧ ∃ b15, yP d13 r0 5 = some b15 ∧ (yK d13 r0 = 8 ∧ ∃ b17, yP d13 r0 4 = some b17 ∧ (yK d13 b17 = 3 ∧ CW g B O 6 0 [some (.ref b17)] [] d13 (CK g B O 84 47 [some (.ref r0)] [.ref b15] Q false)))))))) ∧ (yI c b2 2 = 0 → (yU c + 8 ≤ B) ∧ Q (Sum.inr 1) c)))  :
    CW g B O 84 0 [some (.ref r0)] [] c Q := by
  refine cq_R (fun hRc => ?_)
  refine cq_g (pc' := 1) (ls' := [some (.ref r0)]) (st' := [.ref r0]) dX6_printHead_0 (fun _ _ => rfl) ?_
  obtain ⟨hK1, b2, hP, h⟩ := h
  refine cq_getP dX6_printHead_1 rfl (by decide) rfl (by unfold plK; decide) hK1 hP ?_
  obtain ⟨hK3, h⟩ := h
  refine cq_getI dX6_printHead_4 rfl (by decide) rfl (by unfold plK; decide) hK3 ?_
  obtain ⟨h1, h2⟩ := h
  refine cq_if (t := 20) dX6_printHead_7 (by decide) (d_ne (hRc.1 _ _) (by decide)) (fun q => ?_) (fun q => ?_)
  · have h := h1 q
    refine cq_g (pc' := 21) (ls' := [some (.ref r0)]) (st' := [.ref r0]) dX6_printHead_20 (fun _ _ => rfl) ?_
    obtain ⟨hK4, b5, hP, h⟩ := h
    refine cq_getP dX6_printHead_21 rfl (by decide) rfl (by unfold plK; decide) hK4 hP ?_
    obtain ⟨hK6, h⟩ := h
    refine cq_call (th := false) (rest := []) (ls2 := [some (.ref b5)]) (pc' := 27) dX6_printHead_24 (fun _ _ => ex_calV rfl (by decide)) rfl (Nat.le_of_ble_eq_true rfl) (Nat.le_of_ble_eq_true rfl) (Nat.le_of_ble_eq_true rfl) (cr_rcv rfl rfl (by decide) hK6) rfl rfl rfl (fun q => nomatch q) (t53 hK6 ?_)
    show CW g B O 84 27 [some (.ref r0)] [] (wT c b5 []) Q
    generalize ed7 : wT c b5 [] = d7
    replace h := h _ ed7.symm
    refine cq_R (fun hRd7 => ?_)
    refine cq_g (pc' := 28) (ls' := [some (.ref r0)]) (st' := [.ref r0]) dX6_printHead_27 (fun _ _ => rfl) ?_
    obtain ⟨hK8, b9, hP, h⟩ := h
    refine cq_getP dX6_printHead_28 rfl (by decide) rfl (by unfold plK; decide) hK8 hP ?_
    refine cq_ldcS dX6_printHead_31 rfl ?_
    obtain ⟨hK10, hj11, hl12, h⟩ := h
    refine cq_call (th := false) (rest := []) (ls2 := [some (.ref b9), some (.ref (g (100 + 9))), none]) (pc' := 36) dX6_printHead_33 (fun _ _ => ex_calV rfl (by decide)) rfl (Nat.le_of_ble_eq_true rfl) (Nat.le_of_ble_eq_true rfl) (Nat.le_of_ble_eq_true rfl) (cr_rcv rfl rfl (by decide) hK10) rfl rfl rfl (fun q => nomatch q) (t59 hK10 hj11 hl12 ?_)
    show CW g B O 84 36 [some (.ref r0)] [] (wT d7 b9 (yT d7 b9 ++ tx 9)) Q
    generalize ed13 : wT d7 b9 (yT d7 b9 ++ tx 9) = d13
    replace h := h _ ed13.symm
    refine cq_R (fun hRd13 => ?_)
    refine cq_g (pc' := 37) (ls' := [some (.ref r0)]) (st' := [.ref r0]) dX6_printHead_36 (fun _ _ => rfl) ?_
    obtain ⟨hK14, b15, hP, h⟩ := h
    refine cq_getP dX6_printHead_37 rfl (by decide) rfl (by unfold plK; decide) hK14 hP ?_
    refine cq_g (pc' := 41) (ls' := [some (.ref r0)]) (st' := [.ref r0, .ref b15]) dX6_printHead_40 (fun _ _ => rfl) ?_
    obtain ⟨hK16, b17, hP, h⟩ := h
    refine cq_getP dX6_printHead_41 rfl (by decide) rfl (by unfold plK; decide) hK16 hP ?_
    obtain ⟨hK18, h⟩ := h
    exact cq_call (th := false) (rest := [.ref b15]) (ls2 := [some (.ref b17)]) (pc' := 47) dX6_printHead_44 (fun _ _ => ex_calV rfl (by decide)) rfl (Nat.le_of_ble_eq_true rfl) (Nat.le_of_ble_eq_true rfl) (Nat.le_of_ble_eq_true rfl) (cr_rcv rfl rfl (by decide) hK18) rfl rfl rfl (fun q => nomatch q) h
  · have h := h2 (Decidable.of_not_not q)
    exact cq_thr rfl (Nat.le_of_ble_eq_true rfl) (Nat.le_of_ble_eq_true rfl) (Nat.le_of_ble_eq_true rfl) h.1 h.2
theorem c84_47 {c : CS} {Q : Rs → CS → Prop} {r0 : Nat} {u0 : Int} {w1 : Nat}
    (h : yK c w1 = 7 ∧ ((0 : Int) ≤ u0 ∧ u0 ≤ 99) ∧ (yT c w1).length + 2 ≤ 1024 ∧ (∀ d4, d4 = wT c w1 (yT c w1 ++ nmb u0) → yK d4 r0 = 8 ∧ ∃ b6, yP d4 r0 5 = some b6 ∧ (yK d4 b6 = 7 ∧ ((0 : Int) ≤ 41 ∧ (41 : Int) ≤ 65535) ∧ (yT d4 b6).length < 1024 ∧ (∀ d10, d10 = wT d4 b6 (yT d4 b6 ++ [41]) → Q (Sum.inl none) d10)))) (hu0 : (-2147483648 : Int) ≤ u0 ∧ u0 ≤ 2147483647 := by omega) :
    CW g B O 84 47 [some (.ref r0)] [.int (iI u0), .ref w1] c Q := by
  refine cq_R (fun hRc => ?_)
  obtain ⟨hK1, hx2, hl3, h⟩ := h
  refine cq_call (th := false) (rest := []) (ls2 := [some (.ref w1), some (.int (iI u0))]) (pc' := 50) dX6_printHead_47 (fun _ _ => ex_calV rfl (by decide)) rfl (Nat.le_of_ble_eq_true rfl) (Nat.le_of_ble_eq_true rfl) (Nat.le_of_ble_eq_true rfl) (cr_rcv rfl rfl (by decide) hK1) rfl rfl rfl (fun q => nomatch q) (t62 hK1 hx2 hl3 ?_)
  show CW g B O 84 50 [some (.ref r0)] [] (wT c w1 (yT c w1 ++ nmb u0)) Q
  generalize ed4 : wT c w1 (yT c w1 ++ nmb u0) = d4
  replace h := h _ ed4.symm
  refine cq_R (fun hRd4 => ?_)
  refine cq_g (pc' := 51) (ls' := [some (.ref r0)]) (st' := [.ref r0]) dX6_printHead_50 (fun _ _ => rfl) ?_
  obtain ⟨hK5, b6, hP, h⟩ := h
  refine cq_getP dX6_printHead_51 rfl (by decide) rfl (by unfold plK; decide) hK5 hP ?_
  refine cq_bi dX6_printHead_54 (by decide) ?_
  obtain ⟨hK7, hx8, hl9, h⟩ := h
  refine cq_call (th := false) (rest := []) (ls2 := [some (.ref b6), some (.int (iI 41)), none]) (pc' := 59) dX6_printHead_56 (fun _ _ => ex_calV rfl (by decide)) rfl (Nat.le_of_ble_eq_true rfl) (Nat.le_of_ble_eq_true rfl) (Nat.le_of_ble_eq_true rfl) (cr_rcv rfl rfl (by decide) hK7) rfl rfl rfl (fun q => nomatch q) (t57 hK7 hx8 hl9 ?_)
  show CW g B O 84 59 [some (.ref r0)] [] (wT d4 b6 (yT d4 b6 ++ [41])) Q
  generalize ed10 : wT d4 b6 (yT d4 b6 ++ [41]) = d10
  replace h := h _ ed10.symm
  refine cq_R (fun hRd10 => ?_)
  exact cq_vret dX6_printHead_59 rfl h
theorem c85_0 {c : CS} {Q : Rs → CS → Prop} {r0 : Nat} {x1 : Int}
    (h : (x1 < 0 → CW g B O 85 12 [some (.ref r0), some (.int (iI x1))] [] c Q) ∧ (0 ≤ x1 → yK c r0 = 7 ∧ (x1 < ((yT c r0).length : Int) → yK c r0 = 7 ∧ Q (Sum.inl (some (.int (iI (sg (yT c r0) x1))))) c) ∧ (((yT c r0).length : Int) ≤ x1 → CW g B O 85 12 [some (.ref r0), some (.int (iI x1))] [] c Q))) (hx1 : (-2147483648 : Int) ≤ x1 ∧ x1 ≤ 2147483647 := by omega) :
    CW g B O 85 0 [some (.ref r0), some (.int (iI x1))] [] c Q := by
  refine cq_R (fun hRc => ?_)
  refine cq_g (pc' := 1) (ls' := [some (.ref r0), some (.int (iI x1))]) (st' := [.int (iI x1)]) dX6_signOf_0 (fun _ _ => rfl) ?_
  obtain ⟨h1, h2⟩ := h
  refine cq_if (t := 12) dX6_signOf_1 (by decide) (d_lt hx1 (by decide)) (fun q => ?_) (fun q => ?_)
  · have h := h1 q
    exact h
  · have h := h2 (Int.not_lt.mp q)
    refine cq_g (pc' := 5) (ls' := [some (.ref r0), some (.int (iI x1))]) (st' := [.int (iI x1)]) dX6_signOf_4 (fun _ _ => rfl) ?_
    refine cq_g (pc' := 6) (ls' := [some (.ref r0), some (.int (iI x1))]) (st' := [.ref r0, .int (iI x1)]) dX6_signOf_5 (fun _ _ => rfl) ?_
    obtain ⟨hK1, h⟩ := h
    refine cq_call (th := false) (rest := [.int (iI x1)]) (ls2 := [some (.ref r0)]) (pc' := 9) dX6_signOf_6 (fun _ _ => ex_calV rfl (by decide)) rfl (Nat.le_of_ble_eq_true rfl) (Nat.le_of_ble_eq_true rfl) (Nat.le_of_ble_eq_true rfl) (cr_rcv rfl rfl (by decide) hK1) rfl rfl rfl (fun q => nomatch q) (t54 hK1 ?_)
    show CW g B O 85 9 [some (.ref r0), some (.int (iI x1))] [.int (iI ((yT c r0).length : Int)), .int (iI x1)] c Q
    obtain ⟨h1, h2⟩ := h
    refine cq_icmp (t := 22) dX6_signOf_9 (by decide) (d_lt hx1 (crT hRc hK1)) (fun q => ?_) (fun q => ?_)
    · have h := h1 q
      refine cq_g (pc' := 23) (ls' := [some (.ref r0), some (.int (iI x1))]) (st' := [.ref r0]) dX6_signOf_22 (fun _ _ => rfl) ?_
      refine cq_g (pc' := 24) (ls' := [some (.ref r0), some (.int (iI x1))]) (st' := [.int (iI x1), .ref r0]) dX6_signOf_23 (fun _ _ => rfl) ?_
      obtain ⟨hK2, h⟩ := h
      refine cq_call (th := false) (rest := []) (ls2 := [some (.ref r0), some (.int (iI x1))]) (pc' := 27) dX6_signOf_24 (fun _ _ => ex_calV rfl (by decide)) rfl (Nat.le_of_ble_eq_true rfl) (Nat.le_of_ble_eq_true rfl) (Nat.le_of_ble_eq_true rfl) (cr_rcv rfl rfl (by decide) hK2) rfl rfl rfl (fun q => nomatch q) (t56 hK2 hx1 ?_)
      show CW g B O 85 27 [some (.ref r0), some (.int (iI x1))] [.int (iI (sg (yT c r0) x1))] c Q
      exact cq_ret dX6_signOf_27 rfl h
    · have h := h2 (Int.not_lt.mp q)
      exact h
theorem c85_12 {c : CS} {Q : Rs → CS → Prop} {l0 : Option Value} {l1 : Option Value}
    (h : (yU c + 8 ≤ B) ∧ Q (Sum.inr 1) c)  :
    CW g B O 85 12 [l0, l1] [] c Q := by
  refine cq_R (fun hRc => ?_)
  exact cq_thr rfl (Nat.le_of_ble_eq_true rfl) (Nat.le_of_ble_eq_true rfl) (Nat.le_of_ble_eq_true rfl) h.1 h.2
theorem c86_0 {c : CS} {Q : Rs → CS → Prop} {r0 : Nat} {x1 : Int} {x2 : Int} {l3 : Option Value} {l4 : Option Value} {l5 : Option Value}
    (h : CW g B O 86 5 [some (.ref r0), some (.int (iI x1)), some (.int (iI x2)), some (.int (iI 0)), some (.int (iI 0)), l5] [] c Q) (hx1 : (-2147483648 : Int) ≤ x1 ∧ x1 ≤ 2147483647 := by omega) (hx2 : (-2147483648 : Int) ≤ x2 ∧ x2 ≤ 2147483647 := by omega) :
    CW g B O 86 0 [some (.ref r0), some (.int (iI x1)), some (.int (iI x2)), l3, l4, l5] [] c Q := by
  refine cq_R (fun hRc => ?_)
  refine cq_ic dX6_addBytes_0 ?_
  refine cq_g (pc' := 2) (ls' := [some (.ref r0), some (.int (iI x1)), some (.int (iI x2)), some (.int (iI 0)), l4, l5]) (st' := []) dX6_addBytes_1 (fun _ _ => rfl) ?_
  refine cq_ic dX6_addBytes_2 ?_
  refine cq_g (pc' := 5) (ls' := [some (.ref r0), some (.int (iI x1)), some (.int (iI x2)), some (.int (iI 0)), some (.int (iI 0)), l5]) (st' := []) dX6_addBytes_3 (fun _ _ => rfl) ?_
  exact h
theorem c86_5 {c : CS} {Q : Rs → CS → Prop} {r0 : Nat} {x1 : Int} {x2 : Int} {x3 : Int} {x4 : Int} {l5 : Option Value}
    (h : (4 ≤ x4 → yK c r0 = 7 ∧ ((-2147483648 : Int) ≤ ((yT c r0).length : Int) + x3 ∧ ((yT c r0).length : Int) + x3 ≤ 2147483647) ∧ (((yT c r0).length : Int) + x3 ≤ x2 → CW g B O 86 74 [some (.ref r0), some (.int (iI x1)), some (.int (iI x2)), some (.int (iI x3)), some (.int (iI 0)), l5] [] c Q) ∧ (x2 < ((yT c r0).length : Int) + x3 → (yU c + 8 ≤ B) ∧ Q (Sum.inr 3) c)) ∧ (x4 < 4 → CW g B O 87 0 [some (.int (iI x1)), some (.int (iI x4))] [] c (CK g B O 86 17 [some (.ref r0), some (.int (iI x1)), some (.int (iI x2)), some (.int (iI x3)), some (.int (iI x4)), l5] [] Q false))) (hx1 : (-2147483648 : Int) ≤ x1 ∧ x1 ≤ 2147483647 := by omega) (hx2 : (-2147483648 : Int) ≤ x2 ∧ x2 ≤ 2147483647 := by omega) (hx3 : (-2147483648 : Int) ≤ x3 ∧ x3 ≤ 2147483647 := by omega) (hx4 : (-2147483648 : Int) ≤ x4 ∧ x4 ≤ 2147483647 := by omega) :
    CW g B O 86 5 [some (.ref r0), some (.int (iI x1)), some (.int (iI x2)), some (.int (iI x3)), some (.int (iI x4)), l5] [] c Q := by
  refine cq_R (fun hRc => ?_)
  refine cq_g (pc' := 7) (ls' := [some (.ref r0), some (.int (iI x1)), some (.int (iI x2)), some (.int (iI x3)), some (.int (iI x4)), l5]) (st' := [.int (iI x4)]) dX6_addBytes_5 (fun _ _ => rfl) ?_
  refine cq_ic dX6_addBytes_7 ?_
  obtain ⟨h1, h2⟩ := h
  refine cq_icmp (t := 51) dX6_addBytes_8 (by decide) (d_ge hx4 (by decide)) (fun q => ?_) (fun q => ?_)
  · have h := h1 q
    refine cq_g (pc' := 52) (ls' := [some (.ref r0), some (.int (iI x1)), some (.int (iI x2)), some (.int (iI x3)), some (.int (iI x4)), l5]) (st' := [.ref r0]) dX6_addBytes_51 (fun _ _ => rfl) ?_
    obtain ⟨hK1, h⟩ := h
    refine cq_call (th := false) (rest := []) (ls2 := [some (.ref r0)]) (pc' := 55) dX6_addBytes_52 (fun _ _ => ex_calV rfl (by decide)) rfl (Nat.le_of_ble_eq_true rfl) (Nat.le_of_ble_eq_true rfl) (Nat.le_of_ble_eq_true rfl) (cr_rcv rfl rfl (by decide) hK1) rfl rfl rfl (fun q => nomatch q) (t54 hK1 ?_)
    show CW g B O 86 55 [some (.ref r0), some (.int (iI x1)), some (.int (iI x2)), some (.int (iI x3)), some (.int (iI x4)), l5] [.int (iI ((yT c r0).length : Int))] c Q
    refine cq_g (pc' := 56) (ls' := [some (.ref r0), some (.int (iI x1)), some (.int (iI x2)), some (.int (iI x3)), some (.int (iI x4)), l5]) (st' := [.int (iI x3), .int (iI ((yT c r0).length : Int))]) dX6_addBytes_55 (fun _ _ => rfl) ?_
    obtain ⟨hr2, h⟩ := h
    refine cq_add dX6_addBytes_56 ?_
    refine cq_g (pc' := 58) (ls' := [some (.ref r0), some (.int (iI x1)), some (.int (iI x2)), some (.int (iI x3)), some (.int (iI x4)), l5]) (st' := [.int (iI x2), .int (iI (((yT c r0).length : Int) + x3))]) dX6_addBytes_57 (fun _ _ => rfl) ?_
    obtain ⟨h1, h2⟩ := h
    refine cq_icmp (t := 71) dX6_addBytes_58 (by decide) (d_le hr2 hx2) (fun q => ?_) (fun q => ?_)
    · have h := h1 q
      refine cq_ic dX6_addBytes_71 ?_
      refine cq_g (pc' := 74) (ls' := [some (.ref r0), some (.int (iI x1)), some (.int (iI x2)), some (.int (iI x3)), some (.int (iI 0)), l5]) (st' := []) dX6_addBytes_72 (fun _ _ => rfl) ?_
      exact h
    · have h := h2 (Int.not_le.mp q)
      exact cq_thr rfl (Nat.le_of_ble_eq_true rfl) (Nat.le_of_ble_eq_true rfl) (Nat.le_of_ble_eq_true rfl) h.1 h.2
  · have h := h2 (Int.not_le.mp q)
    refine cq_g (pc' := 12) (ls' := [some (.ref r0), some (.int (iI x1)), some (.int (iI x2)), some (.int (iI x3)), some (.int (iI x4)), l5]) (st' := [.int (iI x1)]) dX6_addBytes_11 (fun _ _ => rfl) ?_
    refine cq_g (pc' := 14) (ls' := [some (.ref r0), some (.int (iI x1)), some (.int (iI x2)), some (.int (iI x3)), some (.int (iI x4)), l5]) (st' := [.int (iI x4), .int (iI x1)]) dX6_addBytes_12 (fun _ _ => rfl) ?_
    exact cq_call (th := false) (rest := []) (ls2 := [some (.int (iI x1)), some (.int (iI x4))]) (pc' := 17) dX6_addBytes_14 (fun _ _ => ex_calS rfl (by decide)) rfl (Nat.le_of_ble_eq_true rfl) (Nat.le_of_ble_eq_true rfl) (Nat.le_of_ble_eq_true rfl) (fun _ _ => rfl) rfl rfl rfl (fun q => nomatch q) h
theorem c86_17 {c : CS} {Q : Rs → CS → Prop} {r0 : Nat} {x1 : Int} {x2 : Int} {x3 : Int} {x4 : Int} {l5 : Option Value} {u0 : Int}
    (h : (u0 = 0 → CW g B O 86 45 [some (.ref r0), some (.int (iI x1)), some (.int (iI x2)), some (.int (iI x3)), some (.int (iI x4)), some (.int (iI u0))] [] c Q) ∧ (¬ u0 = 0 → CW g B O 88 0 [some (.int (iI u0))] [] c (CK g B O 86 29 [some (.ref r0), some (.int (iI x1)), some (.int (iI x2)), some (.int (iI x3)), some (.int (iI x4)), some (.int (iI u0))] [] Q false))) (hx1 : (-2147483648 : Int) ≤ x1 ∧ x1 ≤ 2147483647 := by omega) (hx2 : (-2147483648 : Int) ≤ x2 ∧ x2 ≤ 2147483647 := by omega) (hx3 : (-2147483648 : Int) ≤ x3 ∧ x3 ≤ 2147483647 := by omega) (hx4 : (-2147483648 : Int) ≤ x4 ∧ x4 ≤ 2147483647 := by omega) (hu0 : (-2147483648 : Int) ≤ u0 ∧ u0 ≤ 2147483647 := by omega) :
    CW g B O 86 17 [some (.ref r0), some (.int (iI x1)), some (.int (iI x2)), some (.int (iI x3)), some (.int (iI x4)), l5] [.int (iI u0)] c Q := by
  refine cq_R (fun hRc => ?_)
  refine cq_g (pc' := 19) (ls' := [some (.ref r0), some (.int (iI x1)), some (.int (iI x2)), some (.int (iI x3)), some (.int (iI x4)), some (.int (iI u0))]) (st' := []) dX6_addBytes_17 (fun _ _ => rfl) ?_
  refine cq_g (pc' := 21) (ls' := [some (.ref r0), some (.int (iI x1)), some (.int (iI x2)), some (.int (iI x3)), some (.int (iI x4)), some (.int (iI u0))]) (st' := [.int (iI u0)]) dX6_addBytes_19 (fun _ _ => rfl) ?_
  obtain ⟨h1, h2⟩ := h
  refine cq_if (t := 45) dX6_addBytes_21 (by decide) (d_eq hu0 (by decide)) (fun q => ?_) (fun q => ?_)
  · have h := h1 q
    exact h
  · have h := h2 q
    refine cq_g (pc' := 26) (ls' := [some (.ref r0), some (.int (iI x1)), some (.int (iI x2)), some (.int (iI x3)), some (.int (iI x4)), some (.int (iI u0))]) (st' := [.int (iI u0)]) dX6_addBytes_24 (fun _ _ => rfl) ?_
    exact cq_call (th := false) (rest := []) (ls2 := [some (.int (iI u0))]) (pc' := 29) dX6_addBytes_26 (fun _ _ => ex_calS rfl (by decide)) rfl (Nat.le_of_ble_eq_true rfl) (Nat.le_of_ble_eq_true rfl) (Nat.le_of_ble_eq_true rfl) (fun _ _ => rfl) rfl rfl rfl (fun q => nomatch q) h
theorem c86_29 {c : CS} {Q : Rs → CS → Prop} {r0 : Nat} {x1 : Int} {x2 : Int} {x3 : Int} {x4 : Int} {l5 : Option Value} {u0 : Int}
    (h : (¬ u0 = 0 → ((-2147483648 : Int) ≤ x3 + 1 ∧ x3 + 1 ≤ 2147483647) ∧ CW g B O 86 45 [some (.ref r0), some (.int (iI x1)), some (.int (iI x2)), some (.int (iI (x3 + 1))), some (.int (iI x4)), l5] [] c Q) ∧ (u0 = 0 → (yU c + 8 ≤ B) ∧ Q (Sum.inr 2) c)) (hx1 : (-2147483648 : Int) ≤ x1 ∧ x1 ≤ 2147483647 := by omega) (hx2 : (-2147483648 : Int) ≤ x2 ∧ x2 ≤ 2147483647 := by omega) (hx3 : (-2147483648 : Int) ≤ x3 ∧ x3 ≤ 2147483647 := by omega) (hx4 : (-2147483648 : Int) ≤ x4 ∧ x4 ≤ 2147483647 := by omega) (hu0 : (-2147483648 : Int) ≤ u0 ∧ u0 ≤ 2147483647 := by omega) :
    CW g B O 86 29 [some (.ref r0), some (.int (iI x1)), some (.int (iI x2)), some (.int (iI x3)), some (.int (iI x4)), l5] [.int (iI u0)] c Q := by
  refine cq_R (fun hRc => ?_)
  obtain ⟨h1, h2⟩ := h
  refine cq_if (t := 42) dX6_addBytes_29 (by decide) (d_ne hu0 (by decide)) (fun q => ?_) (fun q => ?_)
  · have h := h1 q
    obtain ⟨hr1, h⟩ := h
    refine cq_inc (ls' := [some (.ref r0), some (.int (iI x1)), some (.int (iI x2)), some (.int (iI (x3 + 1))), some (.int (iI x4)), l5]) dX6_addBytes_42 rfl (Nat.le_of_ble_eq_true rfl) rfl ?_
    exact h
  · have h := h2 (Decidable.of_not_not q)
    exact cq_thr rfl (Nat.le_of_ble_eq_true rfl) (Nat.le_of_ble_eq_true rfl) (Nat.le_of_ble_eq_true rfl) h.1 h.2
theorem c86_45 {c : CS} {Q : Rs → CS → Prop} {r0 : Nat} {x1 : Int} {x2 : Int} {x3 : Int} {x4 : Int} {l5 : Option Value}
    (h : ((-2147483648 : Int) ≤ x4 + 1 ∧ x4 + 1 ≤ 2147483647) ∧ CW g B O 86 5 [some (.ref r0), some (.int (iI x1)), some (.int (iI x2)), some (.int (iI x3)), some (.int (iI (x4 + 1))), l5] [] c Q) (hx1 : (-2147483648 : Int) ≤ x1 ∧ x1 ≤ 2147483647 := by omega) (hx2 : (-2147483648 : Int) ≤ x2 ∧ x2 ≤ 2147483647 := by omega) (hx3 : (-2147483648 : Int) ≤ x3 ∧ x3 ≤ 2147483647 := by omega) (hx4 : (-2147483648 : Int) ≤ x4 ∧ x4 ≤ 2147483647 := by omega) :
    CW g B O 86 45 [some (.ref r0), some (.int (iI x1)), some (.int (iI x2)), some (.int (iI x3)), some (.int (iI x4)), l5] [] c Q := by
  refine cq_R (fun hRc => ?_)
  obtain ⟨hr1, h⟩ := h
  refine cq_inc (ls' := [some (.ref r0), some (.int (iI x1)), some (.int (iI x2)), some (.int (iI x3)), some (.int (iI (x4 + 1))), l5]) dX6_addBytes_45 rfl (Nat.le_of_ble_eq_true rfl) rfl ?_
  refine cq_goto (t := 5) dX6_addBytes_48 (by decide) ?_
  exact h
theorem c86_74 {c : CS} {Q : Rs → CS → Prop} {r0 : Nat} {x1 : Int} {l2 : Option Value} {l3 : Option Value} {x4 : Int} {l5 : Option Value}
    (h : (4 ≤ x4 → Q (Sum.inl none) c) ∧ (x4 < 4 → CW g B O 87 0 [some (.int (iI x1)), some (.int (iI x4))] [] c (CK g B O 86 86 [some (.ref r0), some (.int (iI x1)), l2, l3, some (.int (iI x4)), l5] [] Q false))) (hx1 : (-2147483648 : Int) ≤ x1 ∧ x1 ≤ 2147483647 := by omega) (hx4 : (-2147483648 : Int) ≤ x4 ∧ x4 ≤ 2147483647 := by omega) :
    CW g B O 86 74 [some (.ref r0), some (.int (iI x1)), l2, l3, some (.int (iI x4)), l5] [] c Q := by
  refine cq_R (fun hRc => ?_)
  refine cq_g (pc' := 76) (ls' := [some (.ref r0), some (.int (iI x1)), l2, l3, some (.int (iI x4)), l5]) (st' := [.int (iI x4)]) dX6_addBytes_74 (fun _ _ => rfl) ?_
  refine cq_ic dX6_addBytes_76 ?_
  obtain ⟨h1, h2⟩ := h
  refine cq_icmp (t := 105) dX6_addBytes_77 (by decide) (d_ge hx4 (by decide)) (fun q => ?_) (fun q => ?_)
  · have h := h1 q
    exact cq_vret dX6_addBytes_105 rfl h
  · have h := h2 (Int.not_le.mp q)
    refine cq_g (pc' := 81) (ls' := [some (.ref r0), some (.int (iI x1)), l2, l3, some (.int (iI x4)), l5]) (st' := [.int (iI x1)]) dX6_addBytes_80 (fun _ _ => rfl) ?_
    refine cq_g (pc' := 83) (ls' := [some (.ref r0), some (.int (iI x1)), l2, l3, some (.int (iI x4)), l5]) (st' := [.int (iI x4), .int (iI x1)]) dX6_addBytes_81 (fun _ _ => rfl) ?_
    exact cq_call (th := false) (rest := []) (ls2 := [some (.int (iI x1)), some (.int (iI x4))]) (pc' := 86) dX6_addBytes_83 (fun _ _ => ex_calS rfl (by decide)) rfl (Nat.le_of_ble_eq_true rfl) (Nat.le_of_ble_eq_true rfl) (Nat.le_of_ble_eq_true rfl) (fun _ _ => rfl) rfl rfl rfl (fun q => nomatch q) h
theorem c86_86 {c : CS} {Q : Rs → CS → Prop} {r0 : Nat} {x1 : Int} {l2 : Option Value} {l3 : Option Value} {x4 : Int} {l5 : Option Value} {u0 : Int}
    (h : (u0 = 0 → CW g B O 86 99 [some (.ref r0), some (.int (iI x1)), l2, l3, some (.int (iI x4)), l5] [] c Q) ∧ (¬ u0 = 0 → CW g B O 87 0 [some (.int (iI x1)), some (.int (iI x4))] [] c (CK g B O 86 96 [some (.ref r0), some (.int (iI x1)), l2, l3, some (.int (iI x4)), l5] [.ref r0] Q false))) (hx1 : (-2147483648 : Int) ≤ x1 ∧ x1 ≤ 2147483647 := by omega) (hx4 : (-2147483648 : Int) ≤ x4 ∧ x4 ≤ 2147483647 := by omega) (hu0 : (-2147483648 : Int) ≤ u0 ∧ u0 ≤ 2147483647 := by omega) :
    CW g B O 86 86 [some (.ref r0), some (.int (iI x1)), l2, l3, some (.int (iI x4)), l5] [.int (iI u0)] c Q := by
  refine cq_R (fun hRc => ?_)
  obtain ⟨h1, h2⟩ := h
  refine cq_if (t := 99) dX6_addBytes_86 (by decide) (d_eq hu0 (by decide)) (fun q => ?_) (fun q => ?_)
  · have h := h1 q
    exact h
  · have h := h2 q
    refine cq_g (pc' := 90) (ls' := [some (.ref r0), some (.int (iI x1)), l2, l3, some (.int (iI x4)), l5]) (st' := [.ref r0]) dX6_addBytes_89 (fun _ _ => rfl) ?_
    refine cq_g (pc' := 91) (ls' := [some (.ref r0), some (.int (iI x1)), l2, l3, some (.int (iI x4)), l5]) (st' := [.int (iI x1), .ref r0]) dX6_addBytes_90 (fun _ _ => rfl) ?_
    refine cq_g (pc' := 93) (ls' := [some (.ref r0), some (.int (iI x1)), l2, l3, some (.int (iI x4)), l5]) (st' := [.int (iI x4), .int (iI x1), .ref r0]) dX6_addBytes_91 (fun _ _ => rfl) ?_
    exact cq_call (th := false) (rest := [.ref r0]) (ls2 := [some (.int (iI x1)), some (.int (iI x4))]) (pc' := 96) dX6_addBytes_93 (fun _ _ => ex_calS rfl (by decide)) rfl (Nat.le_of_ble_eq_true rfl) (Nat.le_of_ble_eq_true rfl) (Nat.le_of_ble_eq_true rfl) (fun _ _ => rfl) rfl rfl rfl (fun q => nomatch q) h
theorem c86_96 {c : CS} {Q : Rs → CS → Prop} {r0 : Nat} {x1 : Int} {l2 : Option Value} {l3 : Option Value} {x4 : Int} {l5 : Option Value} {u0 : Int} {w1 : Nat}
    (h : yK c w1 = 7 ∧ ((0 : Int) ≤ u0 ∧ u0 ≤ 65535) ∧ (yT c w1).length < 1024 ∧ (∀ d4, d4 = wT c w1 (yT c w1 ++ [u0]) → CW g B O 86 99 [some (.ref r0), some (.int (iI x1)), l2, l3, some (.int (iI x4)), l5] [] d4 Q)) (hx1 : (-2147483648 : Int) ≤ x1 ∧ x1 ≤ 2147483647 := by omega) (hx4 : (-2147483648 : Int) ≤ x4 ∧ x4 ≤ 2147483647 := by omega) (hu0 : (-2147483648 : Int) ≤ u0 ∧ u0 ≤ 2147483647 := by omega) :
    CW g B O 86 96 [some (.ref r0), some (.int (iI x1)), l2, l3, some (.int (iI x4)), l5] [.int (iI u0), .ref w1] c Q := by
  refine cq_R (fun hRc => ?_)
  obtain ⟨hK1, hx2, hl3, h⟩ := h
  refine cq_call (th := false) (rest := []) (ls2 := [some (.ref w1), some (.int (iI u0)), none]) (pc' := 99) dX6_addBytes_96 (fun _ _ => ex_calV rfl (by decide)) rfl (Nat.le_of_ble_eq_true rfl) (Nat.le_of_ble_eq_true rfl) (Nat.le_of_ble_eq_true rfl) (cr_rcv rfl rfl (by decide) hK1) rfl rfl rfl (fun q => nomatch q) (t57 hK1 hx2 hl3 ?_)
  show CW g B O 86 99 [some (.ref r0), some (.int (iI x1)), l2, l3, some (.int (iI x4)), l5] [] (wT c w1 (yT c w1 ++ [u0])) Q
  generalize ed4 : wT c w1 (yT c w1 ++ [u0]) = d4
  replace h := h _ ed4.symm
  refine cq_R (fun hRd4 => ?_)
  exact h
theorem c86_99 {c : CS} {Q : Rs → CS → Prop} {r0 : Nat} {x1 : Int} {l2 : Option Value} {l3 : Option Value} {x4 : Int} {l5 : Option Value}
    (h : ((-2147483648 : Int) ≤ x4 + 1 ∧ x4 + 1 ≤ 2147483647) ∧ CW g B O 86 74 [some (.ref r0), some (.int (iI x1)), l2, (clr l3), some (.int (iI (x4 + 1))), l5] [] c Q) (hx1 : (-2147483648 : Int) ≤ x1 ∧ x1 ≤ 2147483647 := by omega) (hx4 : (-2147483648 : Int) ≤ x4 ∧ x4 ≤ 2147483647 := by omega) :
    CW g B O 86 99 [some (.ref r0), some (.int (iI x1)), l2, l3, some (.int (iI x4)), l5] [] c Q := by
  refine cq_R (fun hRc => ?_)
  obtain ⟨hr1, h⟩ := h
  refine cq_inc (ls' := [some (.ref r0), some (.int (iI x1)), l2, (clr l3), some (.int (iI (x4 + 1))), l5]) dX6_addBytes_99 rfl (Nat.le_of_ble_eq_true rfl) rfl ?_
  refine cq_goto (t := 74) dX6_addBytes_102 (by decide) ?_
  exact h
theorem c87_0 {c : CS} {Q : Rs → CS → Prop} {x0 : Int} {x1 : Int}
    (h : ((-2147483648 : Int) ≤ 8 * x1 ∧ 8 * x1 ≤ 2147483647) ∧ (8 * x1 = 0 ∨ 8 * x1 = 8 ∨ 8 * x1 = 16 ∨ 8 * x1 = 24) ∧ Q (Sum.inl (some (.int (iI ((x0 % 4294967296 / 2 ^ (8 * x1).toNat) % 256))))) c) (hx0 : (-2147483648 : Int) ≤ x0 ∧ x0 ≤ 2147483647 := by omega) (hx1 : (-2147483648 : Int) ≤ x1 ∧ x1 ≤ 2147483647 := by omega) :
    CW g B O 87 0 [some (.int (iI x0)), some (.int (iI x1))] [] c Q := by
  refine cq_R (fun hRc => ?_)
  refine cq_g (pc' := 1) (ls' := [some (.int (iI x0)), some (.int (iI x1))]) (st' := [.int (iI x0)]) dX6_byteOf_0 (fun _ _ => rfl) ?_
  refine cq_bi dX6_byteOf_1 (by decide) ?_
  refine cq_g (pc' := 4) (ls' := [some (.int (iI x0)), some (.int (iI x1))]) (st' := [.int (iI x1), .int (iI 8), .int (iI x0)]) dX6_byteOf_3 (fun _ _ => rfl) ?_
  obtain ⟨hr1, h⟩ := h
  refine cq_mul dX6_byteOf_4 ?_
  obtain ⟨hr2, h⟩ := h
  refine cq_ushr dX6_byteOf_5 hr2 ?_
  refine cq_si dX6_byteOf_6 (by decide) ?_
  refine cq_and dX6_byteOf_9 (iI_and 8 (by decide) _) ?_
  exact cq_ret dX6_byteOf_10 rfl h
theorem c88_0 {c : CS} {Q : Rs → CS → Prop} {x0 : Int}
    (h : (x0 < 32 → CW g B O 88 12 [some (.int (iI x0))] [] c Q) ∧ (32 ≤ x0 → (x0 ≤ 126 → CW g B O 88 40 [some (.int (iI x0))] [] c Q) ∧ (126 < x0 → CW g B O 88 12 [some (.int (iI x0))] [] c Q))) (hx0 : (-2147483648 : Int) ≤ x0 ∧ x0 ≤ 2147483647 := by omega) :
    CW g B O 88 0 [some (.int (iI x0))] [] c Q := by
  refine cq_R (fun hRc => ?_)
  refine cq_g (pc' := 1) (ls' := [some (.int (iI x0))]) (st' := [.int (iI x0)]) dX6_isCharacter_0 (fun _ _ => rfl) ?_
  refine cq_bi dX6_isCharacter_1 (by decide) ?_
  obtain ⟨h1, h2⟩ := h
  refine cq_icmp (t := 12) dX6_isCharacter_3 (by decide) (d_lt hx0 (by decide)) (fun q => ?_) (fun q => ?_)
  · have h := h1 q
    exact h
  · have h := h2 (Int.not_lt.mp q)
    refine cq_g (pc' := 7) (ls' := [some (.int (iI x0))]) (st' := [.int (iI x0)]) dX6_isCharacter_6 (fun _ _ => rfl) ?_
    refine cq_bi dX6_isCharacter_7 (by decide) ?_
    obtain ⟨h1, h2⟩ := h
    refine cq_icmp (t := 40) dX6_isCharacter_9 (by decide) (d_le hx0 (by decide)) (fun q => ?_) (fun q => ?_)
    · have h := h1 q
      exact h
    · have h := h2 (Int.not_le.mp q)
      exact h
theorem c88_12 {c : CS} {Q : Rs → CS → Prop} {x0 : Int}
    (h : (x0 < 192 → CW g B O 88 44 [some (.int (iI x0))] [] c Q) ∧ (192 ≤ x0 → (255 < x0 → CW g B O 88 44 [some (.int (iI x0))] [] c Q) ∧ (x0 ≤ 255 → (x0 = 215 → CW g B O 88 44 [some (.int (iI x0))] [] c Q) ∧ (¬ x0 = 215 → (x0 = 247 → CW g B O 88 44 [some (.int (iI x0))] [] c Q) ∧ (¬ x0 = 247 → CW g B O 88 40 [some (.int (iI x0))] [] c Q))))) (hx0 : (-2147483648 : Int) ≤ x0 ∧ x0 ≤ 2147483647 := by omega) :
    CW g B O 88 12 [some (.int (iI x0))] [] c Q := by
  refine cq_R (fun hRc => ?_)
  refine cq_g (pc' := 13) (ls' := [some (.int (iI x0))]) (st' := [.int (iI x0)]) dX6_isCharacter_12 (fun _ _ => rfl) ?_
  refine cq_si dX6_isCharacter_13 (by decide) ?_
  obtain ⟨h1, h2⟩ := h
  refine cq_icmp (t := 44) dX6_isCharacter_16 (by decide) (d_lt hx0 (by decide)) (fun q => ?_) (fun q => ?_)
  · have h := h1 q
    exact h
  · have h := h2 (Int.not_lt.mp q)
    refine cq_g (pc' := 20) (ls' := [some (.int (iI x0))]) (st' := [.int (iI x0)]) dX6_isCharacter_19 (fun _ _ => rfl) ?_
    refine cq_si dX6_isCharacter_20 (by decide) ?_
    obtain ⟨h1, h2⟩ := h
    refine cq_icmp (t := 44) dX6_isCharacter_23 (by decide) (d_gt hx0 (by decide)) (fun q => ?_) (fun q => ?_)
    · have h := h1 q
      exact h
    · have h := h2 (Int.not_lt.mp q)
      refine cq_g (pc' := 27) (ls' := [some (.int (iI x0))]) (st' := [.int (iI x0)]) dX6_isCharacter_26 (fun _ _ => rfl) ?_
      refine cq_si dX6_isCharacter_27 (by decide) ?_
      obtain ⟨h1, h2⟩ := h
      refine cq_icmp (t := 44) dX6_isCharacter_30 (by decide) (d_eq hx0 (by decide)) (fun q => ?_) (fun q => ?_)
      · have h := h1 q
        exact h
      · have h := h2 q
        refine cq_g (pc' := 34) (ls' := [some (.int (iI x0))]) (st' := [.int (iI x0)]) dX6_isCharacter_33 (fun _ _ => rfl) ?_
        refine cq_si dX6_isCharacter_34 (by decide) ?_
        obtain ⟨h1, h2⟩ := h
        refine cq_icmp (t := 44) dX6_isCharacter_37 (by decide) (d_eq hx0 (by decide)) (fun q => ?_) (fun q => ?_)
        · have h := h1 q
          exact h
        · have h := h2 q
          exact h
theorem c88_40 {c : CS} {Q : Rs → CS → Prop} {l0 : Option Value}
    (h : CW g B O 88 45 [l0] [.int (iI 1)] c Q)  :
    CW g B O 88 40 [l0] [] c Q := by
  refine cq_R (fun hRc => ?_)
  refine cq_ic dX6_isCharacter_40 ?_
  refine cq_goto (t := 45) dX6_isCharacter_41 (by decide) ?_
  exact h
theorem c88_44 {c : CS} {Q : Rs → CS → Prop} {l0 : Option Value}
    (h : CW g B O 88 45 [l0] [.int (iI 0)] c Q)  :
    CW g B O 88 44 [l0] [] c Q := by
  refine cq_R (fun hRc => ?_)
  refine cq_ic dX6_isCharacter_44 ?_
  exact h
theorem c88_45 {c : CS} {Q : Rs → CS → Prop} {l0 : Option Value} {u0 : Int}
    (h : (u0 = 0 ∨ u0 = 1) ∧ Q (Sum.inl (some (.int (iI u0)))) c) (hu0 : (-2147483648 : Int) ≤ u0 ∧ u0 ≤ 2147483647 := by omega) :
    CW g B O 88 45 [l0] [.int (iI u0)] c Q := by
  refine cq_R (fun hRc => ?_)
  obtain ⟨hn, h⟩ := h
  exact cq_ret dX6_isCharacter_45 (by rcases hn with q | q <;> rw [q] <;> rfl) h
theorem c89_0 {c : CS} {Q : Rs → CS → Prop} {x0 : Int}
    (h : (x0 < 97 → CW g B O 89 12 [some (.int (iI x0))] [] c Q) ∧ (97 ≤ x0 → (x0 ≤ 122 → CW g B O 89 19 [some (.int (iI x0))] [] c Q) ∧ (122 < x0 → CW g B O 89 12 [some (.int (iI x0))] [] c Q))) (hx0 : (-2147483648 : Int) ≤ x0 ∧ x0 ≤ 2147483647 := by omega) :
    CW g B O 89 0 [some (.int (iI x0))] [] c Q := by
  refine cq_R (fun hRc => ?_)
  refine cq_g (pc' := 1) (ls' := [some (.int (iI x0))]) (st' := [.int (iI x0)]) dX6_isSmall_0 (fun _ _ => rfl) ?_
  refine cq_bi dX6_isSmall_1 (by decide) ?_
  obtain ⟨h1, h2⟩ := h
  refine cq_icmp (t := 12) dX6_isSmall_3 (by decide) (d_lt hx0 (by decide)) (fun q => ?_) (fun q => ?_)
  · have h := h1 q
    exact h
  · have h := h2 (Int.not_lt.mp q)
    refine cq_g (pc' := 7) (ls' := [some (.int (iI x0))]) (st' := [.int (iI x0)]) dX6_isSmall_6 (fun _ _ => rfl) ?_
    refine cq_bi dX6_isSmall_7 (by decide) ?_
    obtain ⟨h1, h2⟩ := h
    refine cq_icmp (t := 19) dX6_isSmall_9 (by decide) (d_le hx0 (by decide)) (fun q => ?_) (fun q => ?_)
    · have h := h1 q
      exact h
    · have h := h2 (Int.not_le.mp q)
      exact h
theorem c89_12 {c : CS} {Q : Rs → CS → Prop} {x0 : Int}
    (h : (x0 ≤ 222 → CW g B O 89 24 [some (.int (iI x0))] [.int (iI 0)] c Q) ∧ (222 < x0 → CW g B O 89 19 [some (.int (iI x0))] [] c Q)) (hx0 : (-2147483648 : Int) ≤ x0 ∧ x0 ≤ 2147483647 := by omega) :
    CW g B O 89 12 [some (.int (iI x0))] [] c Q := by
  refine cq_R (fun hRc => ?_)
  refine cq_g (pc' := 13) (ls' := [some (.int (iI x0))]) (st' := [.int (iI x0)]) dX6_isSmall_12 (fun _ _ => rfl) ?_
  refine cq_si dX6_isSmall_13 (by decide) ?_
  obtain ⟨h1, h2⟩ := h
  refine cq_icmp (t := 23) dX6_isSmall_16 (by decide) (d_le hx0 (by decide)) (fun q => ?_) (fun q => ?_)
  · have h := h1 q
    refine cq_ic dX6_isSmall_23 ?_
    exact h
  · have h := h2 (Int.not_le.mp q)
    exact h
theorem c89_19 {c : CS} {Q : Rs → CS → Prop} {l0 : Option Value}
    (h : CW g B O 89 24 [l0] [.int (iI 1)] c Q)  :
    CW g B O 89 19 [l0] [] c Q := by
  refine cq_R (fun hRc => ?_)
  refine cq_ic dX6_isSmall_19 ?_
  refine cq_goto (t := 24) dX6_isSmall_20 (by decide) ?_
  exact h
theorem c89_24 {c : CS} {Q : Rs → CS → Prop} {l0 : Option Value} {u0 : Int}
    (h : (u0 = 0 ∨ u0 = 1) ∧ Q (Sum.inl (some (.int (iI u0)))) c) (hu0 : (-2147483648 : Int) ≤ u0 ∧ u0 ≤ 2147483647 := by omega) :
    CW g B O 89 24 [l0] [.int (iI u0)] c Q := by
  refine cq_R (fun hRc => ?_)
  obtain ⟨hn, h⟩ := h
  exact cq_ret dX6_isSmall_24 (by rcases hn with q | q <;> rw [q] <;> rfl) h
end Blk
