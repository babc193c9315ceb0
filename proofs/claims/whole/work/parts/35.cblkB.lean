section Blk
variable {g : Nat → Nat} {B : Nat} {O : Nat → Prop}
theorem c38_0 {c : CS} {Q : Rs → CS → Prop} {r0 : Nat} {r1 : Nat}
    (h : yU c + 15 ≤ B ∧ (∀ b1, yK c b1 = 0 → ∀ d2, d2 = wN c b1 5 0 15 → CW g B O 18 0 [some (.ref b1)] [] d2 (CK g B O 38 12 [some (.ref r0), some (.ref r1)] [.ref b1, .ref r0] Q false)))  :
    CW g B O 38 0 [some (.ref r0), some (.ref r1)] [] c Q := by
  refine cq_R (fun hRc => ?_)
  refine cq_g (pc' := 1) (ls' := [some (.ref r0), some (.ref r1)]) (st' := [.ref r0]) dX4_init_0 (fun _ _ => rfl) ?_
  refine cq_oi dX4_init_1 rfl ⟨Nat.le_of_ble_eq_true rfl, Nat.le_of_ble_eq_true rfl, Nat.le_of_ble_eq_true rfl⟩ ?_
  refine cq_g (pc' := 5) (ls' := [some (.ref r0), some (.ref r1)]) (st' := [.ref r0]) dX4_init_4 (fun _ _ => rfl) ?_
  obtain ⟨hU3, h⟩ := h
  refine cq_new (N := 7) dX4_init_5 rfl (by decide) rfl (by unfold plK; decide) hU3 (fun b1 hbb1 => ?_)
  replace h := h b1 hbb1
  show CW g B O 38 8 [some (.ref r0), some (.ref r1)] [.ref b1, .ref r0] (wN c b1 5 0 15) Q
  generalize ed2 : wN c b1 5 0 15 = d2
  replace h := h _ ed2.symm
  refine cq_R (fun hRd2 => ?_)
  refine cq_g (pc' := 9) (ls' := [some (.ref r0), some (.ref r1)]) (st' := [.ref b1, .ref b1, .ref r0]) dX4_init_8 (fun _ _ => rfl) ?_
  exact cq_call (th := false) (rest := [.ref b1, .ref r0]) (ls2 := [some (.ref b1)]) (pc' := 12) dX4_init_9 (fun _ _ => ex_calI rfl (by decide)) rfl (Nat.le_of_ble_eq_true rfl) (Nat.le_of_ble_eq_true rfl) (Nat.le_of_ble_eq_true rfl) (fun _ _ => rfl) rfl rfl rfl (fun q => nomatch q) h
theorem c38_12 {c : CS} {Q : Rs → CS → Prop} {r0 : Nat} {r1 : Nat} {w0 : Nat} {w1 : Nat}
    (h : yK c w1 = 6 ∧ (∀ d1, d1 = wP c w1 1 (some w0) → yU d1 + 4100 ≤ B ∧ (∀ b3, yK d1 b3 = 0 → ∀ d4, d4 = wN d1 b3 7 0 4100 → yK d4 r0 = 6 ∧ (∀ d6, d6 = wP d4 r0 2 (some b3) → yU d6 + 4100 ≤ B ∧ (∀ b8, yK d6 b8 = 0 → ∀ d9, d9 = wN d6 b8 7 0 4100 → yK d9 r0 = 6 ∧ (∀ d11, d11 = wP d9 r0 3 (some b8) → yU d11 + 4100 ≤ B ∧ (∀ b13, yK d11 b13 = 0 → ∀ d14, d14 = wN d11 b13 7 0 4100 → yK d14 r0 = 6 ∧ (∀ d16, d16 = wP d14 r0 4 (some b13) → yU d16 + 4100 ≤ B ∧ (∀ b18, yK d16 b18 = 0 → ∀ d19, d19 = wN d16 b18 7 0 4100 → yK d19 r0 = 6 ∧ (∀ d21, d21 = wP d19 r0 5 (some b18) → yK d21 r0 = 6 ∧ (∀ d23, d23 = wI d21 r0 6 0 → yU d23 + 4100 ≤ B ∧ (∀ b25, yK d23 b25 = 0 → ∀ d26, d26 = wN d23 b25 7 0 4100 → yK d26 r0 = 6 ∧ (∀ d28, d28 = wP d26 r0 7 (some b25) → yK d28 r0 = 6 ∧ (∀ d30, d30 = wP d28 r0 0 (some r1) → Q (Sum.inl none) d30))))))))))))))  :
    CW g B O 38 12 [some (.ref r0), some (.ref r1)] [.ref w0, .ref w1] c Q := by
  refine cq_R (fun hRc => ?_)
  obtain ⟨hK2, h⟩ := h
  refine cq_putP dX4_init_12 rfl (by decide) (Or.inr ⟨rfl, rfl⟩) rfl (by unfold plK; decide) hK2 ?_
  generalize ed1 : wP c w1 1 (some w0) = d1
  replace h := h _ ed1.symm
  refine cq_R (fun hRd1 => ?_)
  refine cq_g (pc' := 16) (ls' := [some (.ref r0), some (.ref r1)]) (st' := [.ref r0]) dX4_init_15 (fun _ _ => rfl) ?_
  obtain ⟨hU5, h⟩ := h
  refine cq_newT dX4_init_16 rfl dX4_init_19 dX4_init_20 rfl rfl (Nat.le_of_ble_eq_true rfl) hU5 (fun b3 hbb3 => ?_)
  replace h := h b3 hbb3
  generalize ed4 : wN d1 b3 7 0 4100 = d4
  replace h := h _ ed4.symm
  refine cq_R (fun hRd4 => ?_)
  obtain ⟨hK7, h⟩ := h
  refine cq_putP dX4_init_23 rfl (by decide) (Or.inr ⟨rfl, rfl⟩) rfl (by unfold plK; decide) hK7 ?_
  generalize ed6 : wP d4 r0 2 (some b3) = d6
  replace h := h _ ed6.symm
  refine cq_R (fun hRd6 => ?_)
  refine cq_g (pc' := 27) (ls' := [some (.ref r0), some (.ref r1)]) (st' := [.ref r0]) dX4_init_26 (fun _ _ => rfl) ?_
  obtain ⟨hU10, h⟩ := h
  refine cq_newT dX4_init_27 rfl dX4_init_30 dX4_init_31 rfl rfl (Nat.le_of_ble_eq_true rfl) hU10 (fun b8 hbb8 => ?_)
  replace h := h b8 hbb8
  generalize ed9 : wN d6 b8 7 0 4100 = d9
  replace h := h _ ed9.symm
  refine cq_R (fun hRd9 => ?_)
  obtain ⟨hK12, h⟩ := h
  refine cq_putP dX4_init_34 rfl (by decide) (Or.inr ⟨rfl, rfl⟩) rfl (by unfold plK; decide) hK12 ?_
  generalize ed11 : wP d9 r0 3 (some b8) = d11
  replace h := h _ ed11.symm
  refine cq_R (fun hRd11 => ?_)
  refine cq_g (pc' := 38) (ls' := [some (.ref r0), some (.ref r1)]) (st' := [.ref r0]) dX4_init_37 (fun _ _ => rfl) ?_
  obtain ⟨hU15, h⟩ := h
  refine cq_newT dX4_init_38 rfl dX4_init_41 dX4_init_42 rfl rfl (Nat.le_of_ble_eq_true rfl) hU15 (fun b13 hbb13 => ?_)
  replace h := h b13 hbb13
  generalize ed14 : wN d11 b13 7 0 4100 = d14
  replace h := h _ ed14.symm
  refine cq_R (fun hRd14 => ?_)
  obtain ⟨hK17, h⟩ := h
  refine cq_putP dX4_init_45 rfl (by decide) (Or.inr ⟨rfl, rfl⟩) rfl (by unfold plK; decide) hK17 ?_
  generalize ed16 : wP d14 r0 4 (some b13) = d16
  replace h := h _ ed16.symm
  refine cq_R (fun hRd16 => ?_)
  refine cq_g (pc' := 49) (ls' := [some (.ref r0), some (.ref r1)]) (st' := [.ref r0]) dX4_init_48 (fun _ _ => rfl) ?_
  obtain ⟨hU20, h⟩ := h
  refine cq_newT dX4_init_49 rfl dX4_init_52 dX4_init_53 rfl rfl (Nat.le_of_ble_eq_true rfl) hU20 (fun b18 hbb18 => ?_)
  replace h := h b18 hbb18
  generalize ed19 : wN d16 b18 7 0 4100 = d19
  replace h := h _ ed19.symm
  refine cq_R (fun hRd19 => ?_)
  obtain ⟨hK22, h⟩ := h
  refine cq_putP dX4_init_56 rfl (by decide) (Or.inr ⟨rfl, rfl⟩) rfl (by unfold plK; decide) hK22 ?_
  generalize ed21 : wP d19 r0 5 (some b18) = d21
  replace h := h _ ed21.symm
  refine cq_R (fun hRd21 => ?_)
  refine cq_g (pc' := 60) (ls' := [some (.ref r0), some (.ref r1)]) (st' := [.ref r0]) dX4_init_59 (fun _ _ => rfl) ?_
  refine cq_ic dX4_init_60 ?_
  obtain ⟨hK24, h⟩ := h
  refine cq_putI dX4_init_61 rfl (by decide) (Or.inl rfl) rfl (by unfold plK; decide) (Or.inl rfl) (by decide) hK24 ?_
  generalize ed23 : wI d21 r0 6 0 = d23
  replace h := h _ ed23.symm
  refine cq_R (fun hRd23 => ?_)
  refine cq_g (pc' := 65) (ls' := [some (.ref r0), some (.ref r1)]) (st' := [.ref r0]) dX4_init_64 (fun _ _ => rfl) ?_
  obtain ⟨hU27, h⟩ := h
  refine cq_newT dX4_init_65 rfl dX4_init_68 dX4_init_69 rfl rfl (Nat.le_of_ble_eq_true rfl) hU27 (fun b25 hbb25 => ?_)
  replace h := h b25 hbb25
  generalize ed26 : wN d23 b25 7 0 4100 = d26
  replace h := h _ ed26.symm
  refine cq_R (fun hRd26 => ?_)
  obtain ⟨hK29, h⟩ := h
  refine cq_putP dX4_init_72 rfl (by decide) (Or.inr ⟨rfl, rfl⟩) rfl (by unfold plK; decide) hK29 ?_
  generalize ed28 : wP d26 r0 7 (some b25) = d28
  replace h := h _ ed28.symm
  refine cq_R (fun hRd28 => ?_)
  refine cq_g (pc' := 76) (ls' := [some (.ref r0), some (.ref r1)]) (st' := [.ref r0]) dX4_init_75 (fun _ _ => rfl) ?_
  refine cq_g (pc' := 77) (ls' := [some (.ref r0), some (.ref r1)]) (st' := [.ref r1, .ref r0]) dX4_init_76 (fun _ _ => rfl) ?_
  obtain ⟨hK31, h⟩ := h
  refine cq_putP dX4_init_77 rfl (by decide) (Or.inl rfl) rfl (by unfold plK; decide) hK31 ?_
  generalize ed30 : wP d28 r0 0 (some r1) = d30
  replace h := h _ ed30.symm
  refine cq_R (fun hRd30 => ?_)
  exact cq_vret dX4_init_80 rfl h
theorem c39_0 {c : CS} {Q : Rs → CS → Prop} {r0 : Nat} {r1 : Nat}
    (h : yK c r0 = 6 ∧ (∀ d1, d1 = wP c r0 0 (some r1) → yK d1 r0 = 6 ∧ ∃ b4, yP d1 r0 1 = some b4 ∧ (yK d1 r1 = 2 ∧ CW g B O 3 0 [some (.ref r1), some (.int (iI 0)), none, none, none, none] [] d1 (CK g B O 39 14 [some (.ref r0), some (.ref r1)] [.ref b4] Q false))))  :
    CW g B O 39 0 [some (.ref r0), some (.ref r1)] [] c Q := by
  refine cq_R (fun hRc => ?_)
  refine cq_g (pc' := 1) (ls' := [some (.ref r0), some (.ref r1)]) (st' := [.ref r0]) dX4_tellOf_0 (fun _ _ => rfl) ?_
  refine cq_g (pc' := 2) (ls' := [some (.ref r0), some (.ref r1)]) (st' := [.ref r1, .ref r0]) dX4_tellOf_1 (fun _ _ => rfl) ?_
  obtain ⟨hK2, h⟩ := h
  refine cq_putP dX4_tellOf_2 rfl (by decide) (Or.inl rfl) rfl (by unfold plK; decide) hK2 ?_
  generalize ed1 : wP c r0 0 (some r1) = d1
  replace h := h _ ed1.symm
  refine cq_R (fun hRd1 => ?_)
  refine cq_g (pc' := 6) (ls' := [some (.ref r0), some (.ref r1)]) (st' := [.ref r0]) dX4_tellOf_5 (fun _ _ => rfl) ?_
  obtain ⟨hK3, b4, hP, h⟩ := h
  refine cq_getP dX4_tellOf_6 rfl (by decide) rfl (by unfold plK; decide) hK3 hP ?_
  refine cq_g (pc' := 10) (ls' := [some (.ref r0), some (.ref r1)]) (st' := [.ref r1, .ref b4]) dX4_tellOf_9 (fun _ _ => rfl) ?_
  refine cq_ic dX4_tellOf_10 ?_
  obtain ⟨hK5, h⟩ := h
  exact cq_call (th := false) (rest := [.ref b4]) (ls2 := [some (.ref r1), some (.int (iI 0)), none, none, none, none]) (pc' := 14) dX4_tellOf_11 (fun _ _ => ex_calV rfl (by decide)) rfl (Nat.le_of_ble_eq_true rfl) (Nat.le_of_ble_eq_true rfl) (Nat.le_of_ble_eq_true rfl) (cr_rcv rfl rfl (by decide) hK5) rfl rfl rfl (fun q => nomatch q) h
theorem c39_14 {c : CS} {Q : Rs → CS → Prop} {r0 : Nat} {l1 : Option Value} {w0 : Nat} {w1 : Nat}
    (h : yK c w1 = 5 ∧ CW g B O 20 0 [some (.ref w1), some (.ref w0), none, none, none] [] c (CK g B O 39 17 [some (.ref r0), l1] [] Q false))  :
    CW g B O 39 14 [some (.ref r0), l1] [.ref w0, .ref w1] c Q := by
  refine cq_R (fun hRc => ?_)
  obtain ⟨hK1, h⟩ := h
  exact cq_call (th := false) (rest := []) (ls2 := [some (.ref w1), some (.ref w0), none, none, none]) (pc' := 17) dX4_tellOf_14 (fun _ _ => ex_calV rfl (by decide)) rfl (Nat.le_of_ble_eq_true rfl) (Nat.le_of_ble_eq_true rfl) (Nat.le_of_ble_eq_true rfl) (cr_rcv rfl rfl (by decide) hK1) rfl rfl rfl (fun q => nomatch q) h
theorem c39_17 {c : CS} {Q : Rs → CS → Prop} {r0 : Nat} {l1 : Option Value}
    (h : yK c r0 = 6 ∧ ∃ b2, yP c r0 3 = some b2 ∧ (yK c b2 = 7 ∧ (∀ d4, d4 = wT c b2 [] → yK d4 r0 = 6 ∧ ∃ b6, yP d4 r0 4 = some b6 ∧ (yK d4 b6 = 7 ∧ (∀ d8, d8 = wT d4 b6 [] → yK d8 r0 = 6 ∧ ∃ b10, yP d8 r0 1 = some b10 ∧ (yK d8 b10 = 5 ∧ CW g B O 19 0 [some (.ref b10)] [] d8 (CK g B O 39 38 [some (.ref r0), l1] [] Q false)))))))  :
    CW g B O 39 17 [some (.ref r0), l1] [] c Q := by
  refine cq_R (fun hRc => ?_)
  refine cq_g (pc' := 18) (ls' := [some (.ref r0), l1]) (st' := [.ref r0]) dX4_tellOf_17 (fun _ _ => rfl) ?_
  obtain ⟨hK1, b2, hP, h⟩ := h
  refine cq_getP dX4_tellOf_18 rfl (by decide) rfl (by unfold plK; decide) hK1 hP ?_
  obtain ⟨hK3, h⟩ := h
  refine cq_call (th := false) (rest := []) (ls2 := [some (.ref b2)]) (pc' := 24) dX4_tellOf_21 (fun _ _ => ex_calV rfl (by decide)) rfl (Nat.le_of_ble_eq_true rfl) (Nat.le_of_ble_eq_true rfl) (Nat.le_of_ble_eq_true rfl) (cr_rcv rfl rfl (by decide) hK3) rfl rfl rfl (fun q => nomatch q) (t53 hK3 ?_)
  show CW g B O 39 24 [some (.ref r0), l1] [] (wT c b2 []) Q
  generalize ed4 : wT c b2 [] = d4
  replace h := h _ ed4.symm
  refine cq_R (fun hRd4 => ?_)
  refine cq_g (pc' := 25) (ls' := [some (.ref r0), l1]) (st' := [.ref r0]) dX4_tellOf_24 (fun _ _ => rfl) ?_
  obtain ⟨hK5, b6, hP, h⟩ := h
  refine cq_getP dX4_tellOf_25 rfl (by decide) rfl (by unfold plK; decide) hK5 hP ?_
  obtain ⟨hK7, h⟩ := h
  refine cq_call (th := false) (rest := []) (ls2 := [some (.ref b6)]) (pc' := 31) dX4_tellOf_28 (fun _ _ => ex_calV rfl (by decide)) rfl (Nat.le_of_ble_eq_true rfl) (Nat.le_of_ble_eq_true rfl) (Nat.le_of_ble_eq_true rfl) (cr_rcv rfl rfl (by decide) hK7) rfl rfl rfl (fun q => nomatch q) (t53 hK7 ?_)
  show CW g B O 39 31 [some (.ref r0), l1] [] (wT d4 b6 []) Q
  generalize ed8 : wT d4 b6 [] = d8
  replace h := h _ ed8.symm
  refine cq_R (fun hRd8 => ?_)
  refine cq_g (pc' := 32) (ls' := [some (.ref r0), l1]) (st' := [.ref r0]) dX4_tellOf_31 (fun _ _ => rfl) ?_
  obtain ⟨hK9, b10, hP, h⟩ := h
  refine cq_getP dX4_tellOf_32 rfl (by decide) rfl (by unfold plK; decide) hK9 hP ?_
  obtain ⟨hK11, h⟩ := h
  exact cq_call (th := false) (rest := []) (ls2 := [some (.ref b10)]) (pc' := 38) dX4_tellOf_35 (fun _ _ => ex_calV rfl (by decide)) rfl (Nat.le_of_ble_eq_true rfl) (Nat.le_of_ble_eq_true rfl) (Nat.le_of_ble_eq_true rfl) (cr_rcv rfl rfl (by decide) hK11) rfl rfl rfl (fun q => nomatch q) h
theorem c39_38 {c : CS} {Q : Rs → CS → Prop} {r0 : Nat} {l1 : Option Value} {u0 : Int}
    (h : (u0 ≤ 0 → CW g B O 39 72 [some (.ref r0), l1] [] c Q) ∧ (0 < u0 → yK c r0 = 6 ∧ ∃ b2, yP c r0 1 = some b2 ∧ (yK c r0 = 6 ∧ ∃ b4, yP c r0 3 = some b4 ∧ (yK c b2 = 5 ∧ CW g B O 32 0 [some (.ref b2), some (.int (iI 0)), some (.ref b4)] [] c (CK g B O 39 53 [some (.ref r0), l1] [] Q false))))) (hu0 : (-2147483648 : Int) ≤ u0 ∧ u0 ≤ 2147483647 := by omega) :
    CW g B O 39 38 [some (.ref r0), l1] [.int (iI u0)] c Q := by
  refine cq_R (fun hRc => ?_)
  obtain ⟨h1, h2⟩ := h
  refine cq_if (t := 72) dX4_tellOf_38 (by decide) (d_le hu0 (by decide)) (fun q => ?_) (fun q => ?_)
  · have h := h1 q
    exact h
  · have h := h2 (Int.not_le.mp q)
    refine cq_g (pc' := 42) (ls' := [some (.ref r0), l1]) (st' := [.ref r0]) dX4_tellOf_41 (fun _ _ => rfl) ?_
    obtain ⟨hK1, b2, hP, h⟩ := h
    refine cq_getP dX4_tellOf_42 rfl (by decide) rfl (by unfold plK; decide) hK1 hP ?_
    refine cq_ic dX4_tellOf_45 ?_
    refine cq_g (pc' := 47) (ls' := [some (.ref r0), l1]) (st' := [.ref r0, .int (iI 0), .ref b2]) dX4_tellOf_46 (fun _ _ => rfl) ?_
    obtain ⟨hK3, b4, hP, h⟩ := h
    refine cq_getP dX4_tellOf_47 rfl (by decide) rfl (by unfold plK; decide) hK3 hP ?_
    obtain ⟨hK5, h⟩ := h
    exact cq_call (th := false) (rest := []) (ls2 := [some (.ref b2), some (.int (iI 0)), some (.ref b4)]) (pc' := 53) dX4_tellOf_50 (fun _ _ => ex_calV rfl (by decide)) rfl (Nat.le_of_ble_eq_true rfl) (Nat.le_of_ble_eq_true rfl) (Nat.le_of_ble_eq_true rfl) (cr_rcv rfl rfl (by decide) hK5) rfl rfl rfl (fun q => nomatch q) h
theorem c39_53 {c : CS} {Q : Rs → CS → Prop} {r0 : Nat} {l1 : Option Value}
    (h : yK c r0 = 6 ∧ ∃ b2, yP c r0 3 = some b2 ∧ (yK c b2 = 7 ∧ (∀ x, x ∈ yT c b2 → 0 ≤ x ∧ x ≤ 255) ∧ (∀ d5, d5 = wT c b2 ((yT c b2).map fo) → yK d5 r0 = 6 ∧ ∃ b7, yP d5 r0 1 = some b7 ∧ (yK d5 r0 = 6 ∧ ∃ b9, yP d5 r0 4 = some b9 ∧ (yK d5 b7 = 5 ∧ CW g B O 33 0 [some (.ref b7), some (.int (iI 0)), some (.ref b9), none, none] [] d5 (CK g B O 39 72 [some (.ref r0), l1] [] Q false))))))  :
    CW g B O 39 53 [some (.ref r0), l1] [] c Q := by
  refine cq_R (fun hRc => ?_)
  refine cq_g (pc' := 54) (ls' := [some (.ref r0), l1]) (st' := [.ref r0]) dX4_tellOf_53 (fun _ _ => rfl) ?_
  obtain ⟨hK1, b2, hP, h⟩ := h
  refine cq_getP dX4_tellOf_54 rfl (by decide) rfl (by unfold plK; decide) hK1 hP ?_
  obtain ⟨hK3, hx4, h⟩ := h
  refine cq_call (th := false) (rest := []) (ls2 := [some (.ref b2), none]) (pc' := 60) dX4_tellOf_57 (fun _ _ => ex_calV rfl (by decide)) rfl (Nat.le_of_ble_eq_true rfl) (Nat.le_of_ble_eq_true rfl) (Nat.le_of_ble_eq_true rfl) (cr_rcv rfl rfl (by decide) hK3) rfl rfl rfl (fun q => nomatch q) (t63 hK3 hx4 ?_)
  show CW g B O 39 60 [some (.ref r0), l1] [] (wT c b2 ((yT c b2).map fo)) Q
  generalize ed5 : wT c b2 ((yT c b2).map fo) = d5
  replace h := h _ ed5.symm
  refine cq_R (fun hRd5 => ?_)
  refine cq_g (pc' := 61) (ls' := [some (.ref r0), l1]) (st' := [.ref r0]) dX4_tellOf_60 (fun _ _ => rfl) ?_
  obtain ⟨hK6, b7, hP, h⟩ := h
  refine cq_getP dX4_tellOf_61 rfl (by decide) rfl (by unfold plK; decide) hK6 hP ?_
  refine cq_ic dX4_tellOf_64 ?_
  refine cq_g (pc' := 66) (ls' := [some (.ref r0), l1]) (st' := [.ref r0, .int (iI 0), .ref b7]) dX4_tellOf_65 (fun _ _ => rfl) ?_
  obtain ⟨hK8, b9, hP, h⟩ := h
  refine cq_getP dX4_tellOf_66 rfl (by decide) rfl (by unfold plK; decide) hK8 hP ?_
  obtain ⟨hK10, h⟩ := h
  exact cq_call (th := false) (rest := []) (ls2 := [some (.ref b7), some (.int (iI 0)), some (.ref b9), none, none]) (pc' := 72) dX4_tellOf_69 (fun _ _ => ex_calV rfl (by decide)) rfl (Nat.le_of_ble_eq_true rfl) (Nat.le_of_ble_eq_true rfl) (Nat.le_of_ble_eq_true rfl) (cr_rcv rfl rfl (by decide) hK10) rfl rfl rfl (fun q => nomatch q) h
theorem c39_72 {c : CS} {Q : Rs → CS → Prop} {l0 : Option Value} {l1 : Option Value}
    (h : Q (Sum.inl none) c)  :
    CW g B O 39 72 [l0, l1] [] c Q := by
  refine cq_R (fun hRc => ?_)
  exact cq_vret dX4_tellOf_72 rfl h
theorem c40_0 {c : CS} {Q : Rs → CS → Prop} {r0 : Nat} {x1 : Int}
    (h : yK c r0 = 6 ∧ ∃ b2, yP c r0 2 = some b2 ∧ (yK c b2 = 7 ∧ (∀ d4, d4 = wT c b2 [] → (¬ x1 = 2 → yK d4 r0 = 6 ∧ ∃ b6, yP d4 r0 1 = some b6 ∧ (yK d4 r0 = 6 ∧ ∃ b8, yP d4 r0 2 = some b8 ∧ (yK d4 b6 = 5 ∧ CW g B O 35 0 [some (.ref b6), some (.ref b8), none, none] [] d4 (CK g B O 40 41 [some (.ref r0), some (.int (iI x1))] [] Q false)))) ∧ (x1 = 2 → yK d4 r0 = 6 ∧ CW g B O 41 0 [some (.ref r0)] [] d4 (CK g B O 40 16 [some (.ref r0), some (.int (iI x1))] [] Q false))))) (hx1 : (-2147483648 : Int) ≤ x1 ∧ x1 ≤ 2147483647 := by omega) :
    CW g B O 40 0 [some (.ref r0), some (.int (iI x1))] [] c Q := by
  refine cq_R (fun hRc => ?_)
  refine cq_g (pc' := 1) (ls' := [some (.ref r0), some (.int (iI x1))]) (st' := [.ref r0]) dX4_setOrder_0 (fun _ _ => rfl) ?_
  obtain ⟨hK1, b2, hP, h⟩ := h
  refine cq_getP dX4_setOrder_1 rfl (by decide) rfl (by unfold plK; decide) hK1 hP ?_
  obtain ⟨hK3, h⟩ := h
  refine cq_call (th := false) (rest := []) (ls2 := [some (.ref b2)]) (pc' := 7) dX4_setOrder_4 (fun _ _ => ex_calV rfl (by decide)) rfl (Nat.le_of_ble_eq_true rfl) (Nat.le_of_ble_eq_true rfl) (Nat.le_of_ble_eq_true rfl) (cr_rcv rfl rfl (by decide) hK3) rfl rfl rfl (fun q => nomatch q) (t53 hK3 ?_)
  show CW g B O 40 7 [some (.ref r0), some (.int (iI x1))] [] (wT c b2 []) Q
  generalize ed4 : wT c b2 [] = d4
  replace h := h _ ed4.symm
  refine cq_R (fun hRd4 => ?_)
  refine cq_g (pc' := 8) (ls' := [some (.ref r0), some (.int (iI x1))]) (st' := [.int (iI x1)]) dX4_setOrder_7 (fun _ _ => rfl) ?_
  refine cq_ic dX4_setOrder_8 ?_
  obtain ⟨h1, h2⟩ := h
  refine cq_icmp (t := 30) dX4_setOrder_9 (by decide) (d_ne hx1 (by decide)) (fun q => ?_) (fun q => ?_)
  · have h := h1 q
    refine cq_g (pc' := 31) (ls' := [some (.ref r0), some (.int (iI x1))]) (st' := [.ref r0]) dX4_setOrder_30 (fun _ _ => rfl) ?_
    obtain ⟨hK5, b6, hP, h⟩ := h
    refine cq_getP dX4_setOrder_31 rfl (by decide) rfl (by unfold plK; decide) hK5 hP ?_
    refine cq_g (pc' := 35) (ls' := [some (.ref r0), some (.int (iI x1))]) (st' := [.ref r0, .ref b6]) dX4_setOrder_34 (fun _ _ => rfl) ?_
    obtain ⟨hK7, b8, hP, h⟩ := h
    refine cq_getP dX4_setOrder_35 rfl (by decide) rfl (by unfold plK; decide) hK7 hP ?_
    obtain ⟨hK9, h⟩ := h
    exact cq_call (th := false) (rest := []) (ls2 := [some (.ref b6), some (.ref b8), none, none]) (pc' := 41) dX4_setOrder_38 (fun _ _ => ex_calV rfl (by decide)) rfl (Nat.le_of_ble_eq_true rfl) (Nat.le_of_ble_eq_true rfl) (Nat.le_of_ble_eq_true rfl) (cr_rcv rfl rfl (by decide) hK9) rfl rfl rfl (fun q => nomatch q) h
  · have h := h2 (Decidable.of_not_not q)
    refine cq_g (pc' := 13) (ls' := [some (.ref r0), some (.int (iI x1))]) (st' := [.ref r0]) dX4_setOrder_12 (fun _ _ => rfl) ?_
    obtain ⟨hK10, h⟩ := h
    exact cq_call (th := false) (rest := []) (ls2 := [some (.ref r0)]) (pc' := 16) dX4_setOrder_13 (fun _ _ => ex_calV rfl (by decide)) rfl (Nat.le_of_ble_eq_true rfl) (Nat.le_of_ble_eq_true rfl) (Nat.le_of_ble_eq_true rfl) (cr_rcv rfl rfl (by decide) hK10) rfl rfl rfl (fun q => nomatch q) h
theorem c40_16 {c : CS} {Q : Rs → CS → Prop} {r0 : Nat} {l1 : Option Value}
    (h : yK c r0 = 6 ∧ ∃ b2, yP c r0 1 = some b2 ∧ (yK c r0 = 6 ∧ ∃ b4, yP c r0 2 = some b4 ∧ (yK c b2 = 5 ∧ CW g B O 35 0 [some (.ref b2), some (.ref b4), none, none] [] c (CK g B O 40 27 [some (.ref r0), l1] [] Q false))))  :
    CW g B O 40 16 [some (.ref r0), l1] [] c Q := by
  refine cq_R (fun hRc => ?_)
  refine cq_g (pc' := 17) (ls' := [some (.ref r0), l1]) (st' := [.ref r0]) dX4_setOrder_16 (fun _ _ => rfl) ?_
  obtain ⟨hK1, b2, hP, h⟩ := h
  refine cq_getP dX4_setOrder_17 rfl (by decide) rfl (by unfold plK; decide) hK1 hP ?_
  refine cq_g (pc' := 21) (ls' := [some (.ref r0), l1]) (st' := [.ref r0, .ref b2]) dX4_setOrder_20 (fun _ _ => rfl) ?_
  obtain ⟨hK3, b4, hP, h⟩ := h
  refine cq_getP dX4_setOrder_21 rfl (by decide) rfl (by unfold plK; decide) hK3 hP ?_
  obtain ⟨hK5, h⟩ := h
  exact cq_call (th := false) (rest := []) (ls2 := [some (.ref b2), some (.ref b4), none, none]) (pc' := 27) dX4_setOrder_24 (fun _ _ => ex_calV rfl (by decide)) rfl (Nat.le_of_ble_eq_true rfl) (Nat.le_of_ble_eq_true rfl) (Nat.le_of_ble_eq_true rfl) (cr_rcv rfl rfl (by decide) hK5) rfl rfl rfl (fun q => nomatch q) h
theorem c40_27 {c : CS} {Q : Rs → CS → Prop} {r0 : Nat} {l1 : Option Value}
    (h : CW g B O 40 45 [some (.ref r0), l1] [] c Q)  :
    CW g B O 40 27 [some (.ref r0), l1] [] c Q := by
  refine cq_R (fun hRc => ?_)
  refine cq_goto (t := 45) dX4_setOrder_27 (by decide) ?_
  exact h
theorem c40_41 {c : CS} {Q : Rs → CS → Prop} {r0 : Nat} {l1 : Option Value}
    (h : yK c r0 = 6 ∧ CW g B O 41 0 [some (.ref r0)] [] c (CK g B O 40 45 [some (.ref r0), l1] [] Q false))  :
    CW g B O 40 41 [some (.ref r0), l1] [] c Q := by
  refine cq_R (fun hRc => ?_)
  refine cq_g (pc' := 42) (ls' := [some (.ref r0), l1]) (st' := [.ref r0]) dX4_setOrder_41 (fun _ _ => rfl) ?_
  obtain ⟨hK1, h⟩ := h
  exact cq_call (th := false) (rest := []) (ls2 := [some (.ref r0)]) (pc' := 45) dX4_setOrder_42 (fun _ _ => ex_calV rfl (by decide)) rfl (Nat.le_of_ble_eq_true rfl) (Nat.le_of_ble_eq_true rfl) (Nat.le_of_ble_eq_true rfl) (cr_rcv rfl rfl (by decide) hK1) rfl rfl rfl (fun q => nomatch q) h
theorem c40_45 {c : CS} {Q : Rs → CS → Prop} {r0 : Nat} {l1 : Option Value}
    (h : yK c r0 = 6 ∧ ∃ b2, yP c r0 2 = some b2 ∧ (yK c r0 = 6 ∧ ∃ b4, yP c r0 0 = some b4 ∧ (yK c b4 = 2 ∧ CW g B O 3 0 [some (.ref b4), some (.int (iI 1)), none, none, none, none] [] c (CK g B O 40 57 [some (.ref r0), l1] [.ref b2] Q false))))  :
    CW g B O 40 45 [some (.ref r0), l1] [] c Q := by
  refine cq_R (fun hRc => ?_)
  refine cq_g (pc' := 46) (ls' := [some (.ref r0), l1]) (st' := [.ref r0]) dX4_setOrder_45 (fun _ _ => rfl) ?_
  obtain ⟨hK1, b2, hP, h⟩ := h
  refine cq_getP dX4_setOrder_46 rfl (by decide) rfl (by unfold plK; decide) hK1 hP ?_
  refine cq_g (pc' := 50) (ls' := [some (.ref r0), l1]) (st' := [.ref r0, .ref b2]) dX4_setOrder_49 (fun _ _ => rfl) ?_
  obtain ⟨hK3, b4, hP, h⟩ := h
  refine cq_getP dX4_setOrder_50 rfl (by decide) rfl (by unfold plK; decide) hK3 hP ?_
  refine cq_ic dX4_setOrder_53 ?_
  obtain ⟨hK5, h⟩ := h
  exact cq_call (th := false) (rest := [.ref b2]) (ls2 := [some (.ref b4), some (.int (iI 1)), none, none, none, none]) (pc' := 57) dX4_setOrder_54 (fun _ _ => ex_calV rfl (by decide)) rfl (Nat.le_of_ble_eq_true rfl) (Nat.le_of_ble_eq_true rfl) (Nat.le_of_ble_eq_true rfl) (cr_rcv rfl rfl (by decide) hK5) rfl rfl rfl (fun q => nomatch q) h
theorem c40_57 {c : CS} {Q : Rs → CS → Prop} {r0 : Nat} {l1 : Option Value} {w0 : Nat} {w1 : Nat}
    (h : yK c w1 = 7 ∧ yK c w0 = 7 ∧ (yT c w1).length + (yT c w0).length ≤ 1024 ∧ (∀ d4, d4 = wT c w1 (yT c w1 ++ yT c w0) → yK d4 r0 = 6 ∧ ∃ b6, yP d4 r0 2 = some b6 ∧ (yK d4 b6 = 7 ∧ (∀ x, x ∈ yT d4 b6 → 0 ≤ x ∧ x ≤ 255) ∧ (∀ d9, d9 = wT d4 b6 ((yT d4 b6).map fo) → Q (Sum.inl none) d9))))  :
    CW g B O 40 57 [some (.ref r0), l1] [.ref w0, .ref w1] c Q := by
  refine cq_R (fun hRc => ?_)
  obtain ⟨hK1, hK2, hl3, h⟩ := h
  refine cq_call (th := false) (rest := []) (ls2 := [some (.ref w1), some (.ref w0)]) (pc' := 60) dX4_setOrder_57 (fun _ _ => ex_calV rfl (by decide)) rfl (Nat.le_of_ble_eq_true rfl) (Nat.le_of_ble_eq_true rfl) (Nat.le_of_ble_eq_true rfl) (cr_rcv rfl rfl (by decide) hK1) rfl rfl rfl (fun q => nomatch q) (t60 hK1 hK2 hl3 ?_)
  show CW g B O 40 60 [some (.ref r0), l1] [] (wT c w1 (yT c w1 ++ yT c w0)) Q
  generalize ed4 : wT c w1 (yT c w1 ++ yT c w0) = d4
  replace h := h _ ed4.symm
  refine cq_R (fun hRd4 => ?_)
  refine cq_g (pc' := 61) (ls' := [some (.ref r0), l1]) (st' := [.ref r0]) dX4_setOrder_60 (fun _ _ => rfl) ?_
  obtain ⟨hK5, b6, hP, h⟩ := h
  refine cq_getP dX4_setOrder_61 rfl (by decide) rfl (by unfold plK; decide) hK5 hP ?_
  obtain ⟨hK7, hx8, h⟩ := h
  refine cq_call (th := false) (rest := []) (ls2 := [some (.ref b6), none]) (pc' := 67) dX4_setOrder_64 (fun _ _ => ex_calV rfl (by decide)) rfl (Nat.le_of_ble_eq_true rfl) (Nat.le_of_ble_eq_true rfl) (Nat.le_of_ble_eq_true rfl) (cr_rcv rfl rfl (by decide) hK7) rfl rfl rfl (fun q => nomatch q) (t63 hK7 hx8 ?_)
  show CW g B O 40 67 [some (.ref r0), l1] [] (wT d4 b6 ((yT d4 b6).map fo)) Q
  generalize ed9 : wT d4 b6 ((yT d4 b6).map fo) = d9
  replace h := h _ ed9.symm
  refine cq_R (fun hRd9 => ?_)
  exact cq_vret dX4_setOrder_67 rfl h
theorem c41_0 {c : CS} {Q : Rs → CS → Prop} {r0 : Nat}
    (h : yK c r0 = 6 ∧ ∃ b2, yP c r0 2 = some b2 ∧ (yK c r0 = 6 ∧ ∃ b4, yP c r0 0 = some b4 ∧ (yK c b4 = 2 ∧ CW g B O 3 0 [some (.ref b4), some (.int (iI 2)), none, none, none, none] [] c (CK g B O 41 12 [some (.ref r0)] [.ref b2] Q false))))  :
    CW g B O 41 0 [some (.ref r0)] [] c Q := by
  refine cq_R (fun hRc => ?_)
  refine cq_g (pc' := 1) (ls' := [some (.ref r0)]) (st' := [.ref r0]) dX4_addYearOrder_0 (fun _ _ => rfl) ?_
  obtain ⟨hK1, b2, hP, h⟩ := h
  refine cq_getP dX4_addYearOrder_1 rfl (by decide) rfl (by unfold plK; decide) hK1 hP ?_
  refine cq_g (pc' := 5) (ls' := [some (.ref r0)]) (st' := [.ref r0, .ref b2]) dX4_addYearOrder_4 (fun _ _ => rfl) ?_
  obtain ⟨hK3, b4, hP, h⟩ := h
  refine cq_getP dX4_addYearOrder_5 rfl (by decide) rfl (by unfold plK; decide) hK3 hP ?_
  refine cq_ic dX4_addYearOrder_8 ?_
  obtain ⟨hK5, h⟩ := h
  exact cq_call (th := false) (rest := [.ref b2]) (ls2 := [some (.ref b4), some (.int (iI 2)), none, none, none, none]) (pc' := 12) dX4_addYearOrder_9 (fun _ _ => ex_calV rfl (by decide)) rfl (Nat.le_of_ble_eq_true rfl) (Nat.le_of_ble_eq_true rfl) (Nat.le_of_ble_eq_true rfl) (cr_rcv rfl rfl (by decide) hK5) rfl rfl rfl (fun q => nomatch q) h
theorem c41_12 {c : CS} {Q : Rs → CS → Prop} {r0 : Nat} {w0 : Nat} {w1 : Nat}
    (h : yK c w1 = 7 ∧ yK c w0 = 7 ∧ (yT c w1).length + (yT c w0).length ≤ 1024 ∧ (∀ d4, d4 = wT c w1 (yT c w1 ++ yT c w0) → yK d4 r0 = 6 ∧ ∃ b6, yP d4 r0 2 = some b6 ∧ (yK d4 b6 = 7 ∧ ((0 : Int) ≤ 0 ∧ (0 : Int) ≤ 65535) ∧ (yT d4 b6).length < 1024 ∧ (∀ d10, d10 = wT d4 b6 (yT d4 b6 ++ [0]) → Q (Sum.inl none) d10))))  :
    CW g B O 41 12 [some (.ref r0)] [.ref w0, .ref w1] c Q := by
  refine cq_R (fun hRc => ?_)
  obtain ⟨hK1, hK2, hl3, h⟩ := h
  refine cq_call (th := false) (rest := []) (ls2 := [some (.ref w1), some (.ref w0)]) (pc' := 15) dX4_addYearOrder_12 (fun _ _ => ex_calV rfl (by decide)) rfl (Nat.le_of_ble_eq_true rfl) (Nat.le_of_ble_eq_true rfl) (Nat.le_of_ble_eq_true rfl) (cr_rcv rfl rfl (by decide) hK1) rfl rfl rfl (fun q => nomatch q) (t60 hK1 hK2 hl3 ?_)
  show CW g B O 41 15 [some (.ref r0)] [] (wT c w1 (yT c w1 ++ yT c w0)) Q
  generalize ed4 : wT c w1 (yT c w1 ++ yT c w0) = d4
  replace h := h _ ed4.symm
  refine cq_R (fun hRd4 => ?_)
  refine cq_g (pc' := 16) (ls' := [some (.ref r0)]) (st' := [.ref r0]) dX4_addYearOrder_15 (fun _ _ => rfl) ?_
  obtain ⟨hK5, b6, hP, h⟩ := h
  refine cq_getP dX4_addYearOrder_16 rfl (by decide) rfl (by unfold plK; decide) hK5 hP ?_
  refine cq_ic dX4_addYearOrder_19 ?_
  obtain ⟨hK7, hx8, hl9, h⟩ := h
  refine cq_call (th := false) (rest := []) (ls2 := [some (.ref b6), some (.int (iI 0)), none]) (pc' := 23) dX4_addYearOrder_20 (fun _ _ => ex_calV rfl (by decide)) rfl (Nat.le_of_ble_eq_true rfl) (Nat.le_of_ble_eq_true rfl) (Nat.le_of_ble_eq_true rfl) (cr_rcv rfl rfl (by decide) hK7) rfl rfl rfl (fun q => nomatch q) (t57 hK7 hx8 hl9 ?_)
  show CW g B O 41 23 [some (.ref r0)] [] (wT d4 b6 (yT d4 b6 ++ [0])) Q
  generalize ed10 : wT d4 b6 (yT d4 b6 ++ [0]) = d10
  replace h := h _ ed10.symm
  refine cq_R (fun hRd10 => ?_)
  exact cq_vret dX4_addYearOrder_23 rfl h
theorem c42_0 {c : CS} {Q : Rs → CS → Prop} {r0 : Nat} {r1 : Nat}
    (h : yK c r0 = 6 ∧ ∃ b2, yP c r0 1 = some b2 ∧ (yK c b2 = 5 ∧ CW g B O 19 0 [some (.ref b2)] [] c (CK g B O 42 7 [some (.ref r0), some (.ref r1)] [] Q false)))  :
    CW g B O 42 0 [some (.ref r0), some (.ref r1)] [] c Q := by
  refine cq_R (fun hRc => ?_)
  refine cq_g (pc' := 1) (ls' := [some (.ref r0), some (.ref r1)]) (st' := [.ref r0]) dX4_isMistakenFor_0 (fun _ _ => rfl) ?_
  obtain ⟨hK1, b2, hP, h⟩ := h
  refine cq_getP dX4_isMistakenFor_1 rfl (by decide) rfl (by unfold plK; decide) hK1 hP ?_
  obtain ⟨hK3, h⟩ := h
  exact cq_call (th := false) (rest := []) (ls2 := [some (.ref b2)]) (pc' := 7) dX4_isMistakenFor_4 (fun _ _ => ex_calV rfl (by decide)) rfl (Nat.le_of_ble_eq_true rfl) (Nat.le_of_ble_eq_true rfl) (Nat.le_of_ble_eq_true rfl) (cr_rcv rfl rfl (by decide) hK3) rfl rfl rfl (fun q => nomatch q) h
theorem c42_7 {c : CS} {Q : Rs → CS → Prop} {r0 : Nat} {r1 : Nat} {u0 : Int}
    (h : (u0 ≤ 0 → CW g B O 42 52 [some (.ref r0), some (.ref r1)] [] c Q) ∧ (0 < u0 → yK c r1 = 6 ∧ ∃ b2, yP c r1 1 = some b2 ∧ (yK c b2 = 5 ∧ CW g B O 19 0 [some (.ref b2)] [] c (CK g B O 42 17 [some (.ref r0), some (.ref r1)] [] Q false)))) (hu0 : (-2147483648 : Int) ≤ u0 ∧ u0 ≤ 2147483647 := by omega) :
    CW g B O 42 7 [some (.ref r0), some (.ref r1)] [.int (iI u0)] c Q := by
  refine cq_R (fun hRc => ?_)
  obtain ⟨h1, h2⟩ := h
  refine cq_if (t := 52) dX4_isMistakenFor_7 (by decide) (d_le hu0 (by decide)) (fun q => ?_) (fun q => ?_)
  · have h := h1 q
    exact h
  · have h := h2 (Int.not_le.mp q)
    refine cq_g (pc' := 11) (ls' := [some (.ref r0), some (.ref r1)]) (st' := [.ref r1]) dX4_isMistakenFor_10 (fun _ _ => rfl) ?_
    obtain ⟨hK1, b2, hP, h⟩ := h
    refine cq_getP dX4_isMistakenFor_11 rfl (by decide) rfl (by unfold plK; decide) hK1 hP ?_
    obtain ⟨hK3, h⟩ := h
    exact cq_call (th := false) (rest := []) (ls2 := [some (.ref b2)]) (pc' := 17) dX4_isMistakenFor_14 (fun _ _ => ex_calV rfl (by decide)) rfl (Nat.le_of_ble_eq_true rfl) (Nat.le_of_ble_eq_true rfl) (Nat.le_of_ble_eq_true rfl) (cr_rcv rfl rfl (by decide) hK3) rfl rfl rfl (fun q => nomatch q) h
theorem c42_17 {c : CS} {Q : Rs → CS → Prop} {r0 : Nat} {r1 : Nat} {u0 : Int}
    (h : (u0 ≤ 0 → CW g B O 42 52 [some (.ref r0), some (.ref r1)] [] c Q) ∧ (0 < u0 → yK c r0 = 6 ∧ ∃ b2, yP c r0 4 = some b2 ∧ (yK c r1 = 6 ∧ ∃ b4, yP c r1 4 = some b4 ∧ (yK c b2 = 7 ∧ yK c b4 = 7 ∧ (yT c b2 = yT c b4 → CW g B O 42 52 [some (.ref r0), some (.ref r1)] [] c Q) ∧ (¬ yT c b2 = yT c b4 → yK c r0 = 6 ∧ ∃ b8, yP c r0 3 = some b8 ∧ (yK c r1 = 6 ∧ ∃ b10, yP c r1 3 = some b10 ∧ (yK c b8 = 7 ∧ yK c b10 = 7 ∧ (yT c b8 = yT c b10 → CW g B O 42 53 [some (.ref r0), some (.ref r1)] [.int (iI 1)] c Q) ∧ (¬ yT c b8 = yT c b10 → CW g B O 42 52 [some (.ref r0), some (.ref r1)] [] c Q)))))))) (hu0 : (-2147483648 : Int) ≤ u0 ∧ u0 ≤ 2147483647 := by omega) :
    CW g B O 42 17 [some (.ref r0), some (.ref r1)] [.int (iI u0)] c Q := by
  refine cq_R (fun hRc => ?_)
  obtain ⟨h1, h2⟩ := h
  refine cq_if (t := 52) dX4_isMistakenFor_17 (by decide) (d_le hu0 (by decide)) (fun q => ?_) (fun q => ?_)
  · have h := h1 q
    exact h
  · have h := h2 (Int.not_le.mp q)
    refine cq_g (pc' := 21) (ls' := [some (.ref r0), some (.ref r1)]) (st' := [.ref r0]) dX4_isMistakenFor_20 (fun _ _ => rfl) ?_
    obtain ⟨hK1, b2, hP, h⟩ := h
    refine cq_getP dX4_isMistakenFor_21 rfl (by decide) rfl (by unfold plK; decide) hK1 hP ?_
    refine cq_g (pc' := 25) (ls' := [some (.ref r0), some (.ref r1)]) (st' := [.ref r1, .ref b2]) dX4_isMistakenFor_24 (fun _ _ => rfl) ?_
    obtain ⟨hK3, b4, hP, h⟩ := h
    refine cq_getP dX4_isMistakenFor_25 rfl (by decide) rfl (by unfold plK; decide) hK3 hP ?_
    obtain ⟨hK5, hK6, h1, h2⟩ := h
    refine cq_call (th := false) (rest := []) (ls2 := [some (.ref b2), some (.ref b4)]) (pc' := 31) dX4_isMistakenFor_28 (fun _ _ => ex_calV rfl (by decide)) rfl (Nat.le_of_ble_eq_true rfl) (Nat.le_of_ble_eq_true rfl) (Nat.le_of_ble_eq_true rfl) (cr_rcv rfl rfl (by decide) hK5) rfl rfl rfl (fun q => nomatch q) (t65 hK5 hK6 (fun q => ?_) (fun q => ?_))
    · have h := h1 q
      show CW g B O 42 31 [some (.ref r0), some (.ref r1)] [.int (iI 1)] c Q
      refine cq_if (t := 52) dX4_isMistakenFor_31 (by decide) (d_ne (by decide) (by decide)) (fun _ => ?_) (fun q => absurd (by decide) q)
      exact h
    · have h := h2 q
      show CW g B O 42 31 [some (.ref r0), some (.ref r1)] [.int (iI 0)] c Q
      refine cq_if (t := 52) dX4_isMistakenFor_31 (by decide) (d_ne (by decide) (by decide)) (fun q => absurd q (by decide)) (fun _ => ?_)
      refine cq_g (pc' := 35) (ls' := [some (.ref r0), some (.ref r1)]) (st' := [.ref r0]) dX4_isMistakenFor_34 (fun _ _ => rfl) ?_
      obtain ⟨hK7, b8, hP, h⟩ := h
      refine cq_getP dX4_isMistakenFor_35 rfl (by decide) rfl (by unfold plK; decide) hK7 hP ?_
      refine cq_g (pc' := 39) (ls' := [some (.ref r0), some (.ref r1)]) (st' := [.ref r1, .ref b8]) dX4_isMistakenFor_38 (fun _ _ => rfl) ?_
      obtain ⟨hK9, b10, hP, h⟩ := h
      refine cq_getP dX4_isMistakenFor_39 rfl (by decide) rfl (by unfold plK; decide) hK9 hP ?_
      obtain ⟨hK11, hK12, h1, h2⟩ := h
      refine cq_call (th := false) (rest := []) (ls2 := [some (.ref b8), some (.ref b10)]) (pc' := 45) dX4_isMistakenFor_42 (fun _ _ => ex_calV rfl (by decide)) rfl (Nat.le_of_ble_eq_true rfl) (Nat.le_of_ble_eq_true rfl) (Nat.le_of_ble_eq_true rfl) (cr_rcv rfl rfl (by decide) hK11) rfl rfl rfl (fun q => nomatch q) (t65 hK11 hK12 (fun q => ?_) (fun q => ?_))
      · have h := h1 q
        show CW g B O 42 45 [some (.ref r0), some (.ref r1)] [.int (iI 1)] c Q
        refine cq_if (t := 52) dX4_isMistakenFor_45 (by decide) (d_eq (by decide) (by decide)) (fun q => absurd q (by decide)) (fun _ => ?_)
        refine cq_ic dX4_isMistakenFor_48 ?_
        refine cq_goto (t := 53) dX4_isMistakenFor_49 (by decide) ?_
        exact h
      · have h := h2 q
        show CW g B O 42 45 [some (.ref r0), some (.ref r1)] [.int (iI 0)] c Q
        refine cq_if (t := 52) dX4_isMistakenFor_45 (by decide) (d_eq (by decide) (by decide)) (fun _ => ?_) (fun q => absurd rfl q)
        exact h
theorem c42_52 {c : CS} {Q : Rs → CS → Prop} {l0 : Option Value} {l1 : Option Value}
    (h : CW g B O 42 53 [l0, l1] [.int (iI 0)] c Q)  :
    CW g B O 42 52 [l0, l1] [] c Q := by
  refine cq_R (fun hRc => ?_)
  refine cq_ic dX4_isMistakenFor_52 ?_
  exact h
theorem c42_53 {c : CS} {Q : Rs → CS → Prop} {l0 : Option Value} {l1 : Option Value} {u0 : Int}
    (h : (u0 = 0 ∨ u0 = 1) ∧ Q (Sum.inl (some (.int (iI u0)))) c) (hu0 : (-2147483648 : Int) ≤ u0 ∧ u0 ≤ 2147483647 := by omega) :
    CW g B O 42 53 [l0, l1] [.int (iI u0)] c Q := by
  refine cq_R (fun hRc => ?_)
  obtain ⟨hn, h⟩ := h
  exact cq_ret dX4_isMistakenFor_53 (by rcases hn with q | q <;> rw [q] <;> rfl) h
theorem c43_0 {c : CS} {Q : Rs → CS → Prop} {r0 : Nat} {x1 : Int} {x2 : Int}
    (h : yK c r0 = 6 ∧ ∃ b2, yP c r0 5 = some b2 ∧ (yK c b2 = 7 ∧ (∀ d4, d4 = wT c b2 [] → (¬ x1 = 1 → (¬ x1 = 2 → CW g B O 43 29 [some (.ref r0), some (.int (iI x1)), some (.int (iI x2))] [] d4 Q) ∧ (x1 = 2 → yK d4 r0 = 6 ∧ CW g B O 45 0 [some (.ref r0), some (.int (iI x2))] [] d4 (CK g B O 43 29 [some (.ref r0), some (.int (iI x1)), some (.int (iI x2))] [] Q false))) ∧ (x1 = 1 → yK d4 r0 = 6 ∧ CW g B O 44 0 [some (.ref r0), none] [] d4 (CK g B O 43 16 [some (.ref r0), some (.int (iI x1)), some (.int (iI x2))] [] Q false))))) (hx1 : (-2147483648 : Int) ≤ x1 ∧ x1 ≤ 2147483647 := by omega) (hx2 : (-2147483648 : Int) ≤ x2 ∧ x2 ≤ 2147483647 := by omega) :
    CW g B O 43 0 [some (.ref r0), some (.int (iI x1)), some (.int (iI x2))] [] c Q := by
  refine cq_R (fun hRc => ?_)
  refine cq_g (pc' := 1) (ls' := [some (.ref r0), some (.int (iI x1)), some (.int (iI x2))]) (st' := [.ref r0]) dX4_setBase_0 (fun _ _ => rfl) ?_
  obtain ⟨hK1, b2, hP, h⟩ := h
  refine cq_getP dX4_setBase_1 rfl (by decide) rfl (by unfold plK; decide) hK1 hP ?_
  obtain ⟨hK3, h⟩ := h
  refine cq_call (th := false) (rest := []) (ls2 := [some (.ref b2)]) (pc' := 7) dX4_setBase_4 (fun _ _ => ex_calV rfl (by decide)) rfl (Nat.le_of_ble_eq_true rfl) (Nat.le_of_ble_eq_true rfl) (Nat.le_of_ble_eq_true rfl) (cr_rcv rfl rfl (by decide) hK3) rfl rfl rfl (fun q => nomatch q) (t53 hK3 ?_)
  show CW g B O 43 7 [some (.ref r0), some (.int (iI x1)), some (.int (iI x2))] [] (wT c b2 []) Q
  generalize ed4 : wT c b2 [] = d4
  replace h := h _ ed4.symm
  refine cq_R (fun hRd4 => ?_)
  refine cq_g (pc' := 8) (ls' := [some (.ref r0), some (.int (iI x1)), some (.int (iI x2))]) (st' := [.int (iI x1)]) dX4_setBase_7 (fun _ _ => rfl) ?_
  refine cq_ic dX4_setBase_8 ?_
  obtain ⟨h1, h2⟩ := h
  refine cq_icmp (t := 19) dX4_setBase_9 (by decide) (d_ne hx1 (by decide)) (fun q => ?_) (fun q => ?_)
  · have h := h1 q
    refine cq_g (pc' := 20) (ls' := [some (.ref r0), some (.int (iI x1)), some (.int (iI x2))]) (st' := [.int (iI x1)]) dX4_setBase_19 (fun _ _ => rfl) ?_
    refine cq_ic dX4_setBase_20 ?_
    obtain ⟨h1, h2⟩ := h
    refine cq_icmp (t := 29) dX4_setBase_21 (by decide) (d_ne hx1 (by decide)) (fun q => ?_) (fun q => ?_)
    · have h := h1 q
      exact h
    · have h := h2 (Decidable.of_not_not q)
      refine cq_g (pc' := 25) (ls' := [some (.ref r0), some (.int (iI x1)), some (.int (iI x2))]) (st' := [.ref r0]) dX4_setBase_24 (fun _ _ => rfl) ?_
      refine cq_g (pc' := 26) (ls' := [some (.ref r0), some (.int (iI x1)), some (.int (iI x2))]) (st' := [.int (iI x2), .ref r0]) dX4_setBase_25 (fun _ _ => rfl) ?_
      obtain ⟨hK5, h⟩ := h
      exact cq_call (th := false) (rest := []) (ls2 := [some (.ref r0), some (.int (iI x2))]) (pc' := 29) dX4_setBase_26 (fun _ _ => ex_calV rfl (by decide)) rfl (Nat.le_of_ble_eq_true rfl) (Nat.le_of_ble_eq_true rfl) (Nat.le_of_ble_eq_true rfl) (cr_rcv rfl rfl (by decide) hK5) rfl rfl rfl (fun q => nomatch q) h
  · have h := h2 (Decidable.of_not_not q)
    refine cq_g (pc' := 13) (ls' := [some (.ref r0), some (.int (iI x1)), some (.int (iI x2))]) (st' := [.ref r0]) dX4_setBase_12 (fun _ _ => rfl) ?_
    obtain ⟨hK6, h⟩ := h
    exact cq_call (th := false) (rest := []) (ls2 := [some (.ref r0), none]) (pc' := 16) dX4_setBase_13 (fun _ _ => ex_calV rfl (by decide)) rfl (Nat.le_of_ble_eq_true rfl) (Nat.le_of_ble_eq_true rfl) (Nat.le_of_ble_eq_true rfl) (cr_rcv rfl rfl (by decide) hK6) rfl rfl rfl (fun q => nomatch q) h
theorem c43_16 {c : CS} {Q : Rs → CS → Prop} {l0 : Option Value} {l1 : Option Value} {l2 : Option Value}
    (h : CW g B O 43 29 [l0, l1, l2] [] c Q)  :
    CW g B O 43 16 [l0, l1, l2] [] c Q := by
  refine cq_R (fun hRc => ?_)
  refine cq_goto (t := 29) dX4_setBase_16 (by decide) ?_
  exact h
theorem c43_29 {c : CS} {Q : Rs → CS → Prop} {l0 : Option Value} {l1 : Option Value} {l2 : Option Value}
    (h : Q (Sum.inl none) c)  :
    CW g B O 43 29 [l0, l1, l2] [] c Q := by
  refine cq_R (fun hRc => ?_)
  exact cq_vret dX4_setBase_29 rfl h
theorem c44_0 {c : CS} {Q : Rs → CS → Prop} {r0 : Nat} {l1 : Option Value}
    (h : yK c r0 = 6 ∧ ∃ b2, yP c r0 1 = some b2 ∧ (yK c b2 = 5 ∧ CW g B O 19 0 [some (.ref b2)] [] c (CK g B O 44 7 [some (.ref r0), l1] [] Q false)))  :
    CW g B O 44 0 [some (.ref r0), l1] [] c Q := by
  refine cq_R (fun hRc => ?_)
  refine cq_g (pc' := 1) (ls' := [some (.ref r0), l1]) (st' := [.ref r0]) dX4_addShortBase_0 (fun _ _ => rfl) ?_
  obtain ⟨hK1, b2, hP, h⟩ := h
  refine cq_getP dX4_addShortBase_1 rfl (by decide) rfl (by unfold plK; decide) hK1 hP ?_
  obtain ⟨hK3, h⟩ := h
  exact cq_call (th := false) (rest := []) (ls2 := [some (.ref b2)]) (pc' := 7) dX4_addShortBase_4 (fun _ _ => ex_calV rfl (by decide)) rfl (Nat.le_of_ble_eq_true rfl) (Nat.le_of_ble_eq_true rfl) (Nat.le_of_ble_eq_true rfl) (cr_rcv rfl rfl (by decide) hK3) rfl rfl rfl (fun q => nomatch q) h
theorem c44_7 {c : CS} {Q : Rs → CS → Prop} {r0 : Nat} {l1 : Option Value} {u0 : Int}
    (h : (¬ u0 = 0 → yK c r0 = 6 ∧ ∃ b2, yP c r0 1 = some b2 ∧ (yK c b2 = 5 ∧ CW g B O 19 0 [some (.ref b2)] [] c (CK g B O 44 36 [some (.ref r0), l1] [] Q false))) ∧ (u0 = 0 → yK c r0 = 6 ∧ ∃ b5, yP c r0 5 = some b5 ∧ (yK c r0 = 6 ∧ ∃ b7, yP c r0 0 = some b7 ∧ (yK c b7 = 2 ∧ ∃ b9, yP c b7 2 = some b9 ∧ (yK c b5 = 7 ∧ yK c b9 = 7 ∧ (¬ b5 = b9 ∨ 3 ≤ ((yT c b9).length : Int)) ∧ (yT c b5).length + (prt (yT c b9) 0 3).length ≤ 1024 ∧ (∀ d13, d13 = wT c b5 (yT c b5 ++ prt (yT c b9) 0 3) → CW g B O 44 74 [some (.ref r0), l1] [] d13 Q)))))) (hu0 : (-2147483648 : Int) ≤ u0 ∧ u0 ≤ 2147483647 := by omega) :
    CW g B O 44 7 [some (.ref r0), l1] [.int (iI u0)] c Q := by
  refine cq_R (fun hRc => ?_)
  obtain ⟨h1, h2⟩ := h
  refine cq_if (t := 29) dX4_addShortBase_7 (by decide) (d_ne hu0 (by decide)) (fun q => ?_) (fun q => ?_)
  · have h := h1 q
    refine cq_g (pc' := 30) (ls' := [some (.ref r0), l1]) (st' := [.ref r0]) dX4_addShortBase_29 (fun _ _ => rfl) ?_
    obtain ⟨hK1, b2, hP, h⟩ := h
    refine cq_getP dX4_addShortBase_30 rfl (by decide) rfl (by unfold plK; decide) hK1 hP ?_
    obtain ⟨hK3, h⟩ := h
    exact cq_call (th := false) (rest := []) (ls2 := [some (.ref b2)]) (pc' := 36) dX4_addShortBase_33 (fun _ _ => ex_calV rfl (by decide)) rfl (Nat.le_of_ble_eq_true rfl) (Nat.le_of_ble_eq_true rfl) (Nat.le_of_ble_eq_true rfl) (cr_rcv rfl rfl (by decide) hK3) rfl rfl rfl (fun q => nomatch q) h
  · have h := h2 (Decidable.of_not_not q)
    refine cq_g (pc' := 11) (ls' := [some (.ref r0), l1]) (st' := [.ref r0]) dX4_addShortBase_10 (fun _ _ => rfl) ?_
    obtain ⟨hK4, b5, hP, h⟩ := h
    refine cq_getP dX4_addShortBase_11 rfl (by decide) rfl (by unfold plK; decide) hK4 hP ?_
    refine cq_g (pc' := 15) (ls' := [some (.ref r0), l1]) (st' := [.ref r0, .ref b5]) dX4_addShortBase_14 (fun _ _ => rfl) ?_
    obtain ⟨hK6, b7, hP, h⟩ := h
    refine cq_getP dX4_addShortBase_15 rfl (by decide) rfl (by unfold plK; decide) hK6 hP ?_
    obtain ⟨hK8, b9, hP, h⟩ := h
    refine cq_getP dX4_addShortBase_18 rfl (by decide) rfl (by unfold plK; decide) hK8 hP ?_
    refine cq_ic dX4_addShortBase_21 ?_
    refine cq_ic dX4_addShortBase_22 ?_
    obtain ⟨hK10, hK11, hK11n, hl12, h⟩ := h
    refine cq_call (th := false) (rest := []) (ls2 := [some (.ref b5), some (.ref b9), some (.int (iI 0)), some (.int (iI 3)), none]) (pc' := 26) dX4_addShortBase_23 (fun _ _ => ex_calV rfl (by decide)) rfl (Nat.le_of_ble_eq_true rfl) (Nat.le_of_ble_eq_true rfl) (Nat.le_of_ble_eq_true rfl) (cr_rcv rfl rfl (by decide) hK10) rfl rfl rfl (fun q => nomatch q) (t61 hK10 hK11 hK11n (by decide) (by decide) hl12 ?_)
    show CW g B O 44 26 [some (.ref r0), l1] [] (wT c b5 (yT c b5 ++ prt (yT c b9) 0 3)) Q
    generalize ed13 : wT c b5 (yT c b5 ++ prt (yT c b9) 0 3) = d13
    replace h := h _ ed13.symm
    refine cq_R (fun hRd13 => ?_)
    refine cq_goto (t := 74) dX4_addShortBase_26 (by decide) ?_
    exact h
theorem c44_36 {c : CS} {Q : Rs → CS → Prop} {r0 : Nat} {l1 : Option Value} {u0 : Int}
    (h : (¬ u0 = 1 → yK c r0 = 6 ∧ ∃ b2, yP c r0 1 = some b2 ∧ (yK c r0 = 6 ∧ ∃ b4, yP c r0 5 = some b4 ∧ (yK c b2 = 5 ∧ CW g B O 37 0 [some (.ref b2), some (.ref b4), none, none] [] c (CK g B O 44 74 [some (.ref r0), l1] [] Q false)))) ∧ (u0 = 1 → yK c r0 = 6 ∧ ∃ b7, yP c r0 1 = some b7 ∧ (yK c r0 = 6 ∧ ∃ b9, yP c r0 5 = some b9 ∧ (yK c b7 = 5 ∧ CW g B O 32 0 [some (.ref b7), some (.int (iI 0)), some (.ref b9)] [] c (CK g B O 44 52 [some (.ref r0), l1] [] Q false))))) (hu0 : (-2147483648 : Int) ≤ u0 ∧ u0 ≤ 2147483647 := by omega) :
    CW g B O 44 36 [some (.ref r0), l1] [.int (iI u0)] c Q := by
  refine cq_R (fun hRc => ?_)
  refine cq_ic dX4_addShortBase_36 ?_
  obtain ⟨h1, h2⟩ := h
  refine cq_icmp (t := 63) dX4_addShortBase_37 (by decide) (d_ne hu0 (by decide)) (fun q => ?_) (fun q => ?_)
  · have h := h1 q
    refine cq_g (pc' := 64) (ls' := [some (.ref r0), l1]) (st' := [.ref r0]) dX4_addShortBase_63 (fun _ _ => rfl) ?_
    obtain ⟨hK1, b2, hP, h⟩ := h
    refine cq_getP dX4_addShortBase_64 rfl (by decide) rfl (by unfold plK; decide) hK1 hP ?_
    refine cq_g (pc' := 68) (ls' := [some (.ref r0), l1]) (st' := [.ref r0, .ref b2]) dX4_addShortBase_67 (fun _ _ => rfl) ?_
    obtain ⟨hK3, b4, hP, h⟩ := h
    refine cq_getP dX4_addShortBase_68 rfl (by decide) rfl (by unfold plK; decide) hK3 hP ?_
    obtain ⟨hK5, h⟩ := h
    exact cq_call (th := false) (rest := []) (ls2 := [some (.ref b2), some (.ref b4), none, none]) (pc' := 74) dX4_addShortBase_71 (fun _ _ => ex_calV rfl (by decide)) rfl (Nat.le_of_ble_eq_true rfl) (Nat.le_of_ble_eq_true rfl) (Nat.le_of_ble_eq_true rfl) (cr_rcv rfl rfl (by decide) hK5) rfl rfl rfl (fun q => nomatch q) h
  · have h := h2 (Decidable.of_not_not q)
    refine cq_g (pc' := 41) (ls' := [some (.ref r0), l1]) (st' := [.ref r0]) dX4_addShortBase_40 (fun _ _ => rfl) ?_
    obtain ⟨hK6, b7, hP, h⟩ := h
    refine cq_getP dX4_addShortBase_41 rfl (by decide) rfl (by unfold plK; decide) hK6 hP ?_
    refine cq_ic dX4_addShortBase_44 ?_
    refine cq_g (pc' := 46) (ls' := [some (.ref r0), l1]) (st' := [.ref r0, .int (iI 0), .ref b7]) dX4_addShortBase_45 (fun _ _ => rfl) ?_
    obtain ⟨hK8, b9, hP, h⟩ := h
    refine cq_getP dX4_addShortBase_46 rfl (by decide) rfl (by unfold plK; decide) hK8 hP ?_
    obtain ⟨hK10, h⟩ := h
    exact cq_call (th := false) (rest := []) (ls2 := [some (.ref b7), some (.int (iI 0)), some (.ref b9)]) (pc' := 52) dX4_addShortBase_49 (fun _ _ => ex_calV rfl (by decide)) rfl (Nat.le_of_ble_eq_true rfl) (Nat.le_of_ble_eq_true rfl) (Nat.le_of_ble_eq_true rfl) (cr_rcv rfl rfl (by decide) hK10) rfl rfl rfl (fun q => nomatch q) h
theorem c44_52 {c : CS} {Q : Rs → CS → Prop} {r0 : Nat} {l1 : Option Value}
    (h : yK c r0 = 6 ∧ ∃ b2, yP c r0 5 = some b2 ∧ (yK c b2 = 7 ∧ ((0 : Int) ≤ 3 ∧ (3 : Int) ≤ 2147483647) ∧ (∀ d5, d5 = wT c b2 ((yT c b2).take (3 : Int).toNat) → CW g B O 44 74 [some (.ref r0), l1] [] d5 Q)))  :
    CW g B O 44 52 [some (.ref r0), l1] [] c Q := by
  refine cq_R (fun hRc => ?_)
  refine cq_g (pc' := 53) (ls' := [some (.ref r0), l1]) (st' := [.ref r0]) dX4_addShortBase_52 (fun _ _ => rfl) ?_
  obtain ⟨hK1, b2, hP, h⟩ := h
  refine cq_getP dX4_addShortBase_53 rfl (by decide) rfl (by unfold plK; decide) hK1 hP ?_
  refine cq_ic dX4_addShortBase_56 ?_
  obtain ⟨hK3, hx4, h⟩ := h
  refine cq_call (th := false) (rest := []) (ls2 := [some (.ref b2), some (.int (iI 3))]) (pc' := 60) dX4_addShortBase_57 (fun _ _ => ex_calV rfl (by decide)) rfl (Nat.le_of_ble_eq_true rfl) (Nat.le_of_ble_eq_true rfl) (Nat.le_of_ble_eq_true rfl) (cr_rcv rfl rfl (by decide) hK3) rfl rfl rfl (fun q => nomatch q) (t58 (x := 3) hK3 hx4 ?_)
  show CW g B O 44 60 [some (.ref r0), l1] [] (wT c b2 ((yT c b2).take (3 : Int).toNat)) Q
  generalize ed5 : wT c b2 ((yT c b2).take (3 : Int).toNat) = d5
  replace h := h _ ed5.symm
  refine cq_R (fun hRd5 => ?_)
  refine cq_goto (t := 74) dX4_addShortBase_60 (by decide) ?_
  exact h
theorem c44_74 {c : CS} {Q : Rs → CS → Prop} {r0 : Nat} {l1 : Option Value}
    (h : yK c r0 = 6 ∧ ∃ b2, yP c r0 0 = some b2 ∧ (yK c b2 = 2 ∧ CW g B O 3 0 [some (.ref b2), some (.int (iI 2)), none, none, none, none] [] c (CK g B O 44 82 [some (.ref r0), l1] [] Q false)))  :
    CW g B O 44 74 [some (.ref r0), l1] [] c Q := by
  refine cq_R (fun hRc => ?_)
  refine cq_g (pc' := 75) (ls' := [some (.ref r0), l1]) (st' := [.ref r0]) dX4_addShortBase_74 (fun _ _ => rfl) ?_
  obtain ⟨hK1, b2, hP, h⟩ := h
  refine cq_getP dX4_addShortBase_75 rfl (by decide) rfl (by unfold plK; decide) hK1 hP ?_
  refine cq_ic dX4_addShortBase_78 ?_
  obtain ⟨hK3, h⟩ := h
  exact cq_call (th := false) (rest := []) (ls2 := [some (.ref b2), some (.int (iI 2)), none, none, none, none]) (pc' := 82) dX4_addShortBase_79 (fun _ _ => ex_calV rfl (by decide)) rfl (Nat.le_of_ble_eq_true rfl) (Nat.le_of_ble_eq_true rfl) (Nat.le_of_ble_eq_true rfl) (cr_rcv rfl rfl (by decide) hK3) rfl rfl rfl (fun q => nomatch q) h
theorem c44_82 {c : CS} {Q : Rs → CS → Prop} {r0 : Nat} {l1 : Option Value} {w0 : Nat}
    (h : yK c r0 = 6 ∧ ∃ b2, yP c r0 5 = some b2 ∧ (yK c w0 = 7 ∧ ((-2147483648 : Int) ≤ ((yT c w0).length : Int) - 2 ∧ ((yT c w0).length : Int) - 2 ≤ 2147483647) ∧ yK c w0 = 7 ∧ yK c b2 = 7 ∧ yK c w0 = 7 ∧ (¬ b2 = w0 ∨ ((yT c w0).length : Int) ≤ ((yT c w0).length : Int)) ∧ (yT c b2).length + (prt (yT c w0) (((yT c w0).length : Int) - 2) ((yT c w0).length : Int)).length ≤ 1024 ∧ (∀ d9, d9 = wT c b2 (yT c b2 ++ prt (yT c w0) (((yT c w0).length : Int) - 2) ((yT c w0).length : Int)) → Q (Sum.inl none) d9)))  :
    CW g B O 44 82 [some (.ref r0), l1] [.ref w0] c Q := by
  refine cq_R (fun hRc => ?_)
  refine cq_g (pc' := 83) (ls' := [some (.ref r0), some (.ref w0)]) (st' := []) dX4_addShortBase_82 (fun _ _ => rfl) ?_
  refine cq_g (pc' := 84) (ls' := [some (.ref r0), some (.ref w0)]) (st' := [.ref r0]) dX4_addShortBase_83 (fun _ _ => rfl) ?_
  obtain ⟨hK1, b2, hP, h⟩ := h
  refine cq_getP dX4_addShortBase_84 rfl (by decide) rfl (by unfold plK; decide) hK1 hP ?_
  refine cq_g (pc' := 88) (ls' := [some (.ref r0), some (.ref w0)]) (st' := [.ref w0, .ref b2]) dX4_addShortBase_87 (fun _ _ => rfl) ?_
  refine cq_g (pc' := 89) (ls' := [some (.ref r0), some (.ref w0)]) (st' := [.ref w0, .ref w0, .ref b2]) dX4_addShortBase_88 (fun _ _ => rfl) ?_
  obtain ⟨hK3, h⟩ := h
  refine cq_call (th := false) (rest := [.ref w0, .ref b2]) (ls2 := [some (.ref w0)]) (pc' := 92) dX4_addShortBase_89 (fun _ _ => ex_calV rfl (by decide)) rfl (Nat.le_of_ble_eq_true rfl) (Nat.le_of_ble_eq_true rfl) (Nat.le_of_ble_eq_true rfl) (cr_rcv rfl rfl (by decide) hK3) rfl rfl rfl (fun q => nomatch q) (t54 hK3 ?_)
  show CW g B O 44 92 [some (.ref r0), some (.ref w0)] [.int (iI ((yT c w0).length : Int)), .ref w0, .ref b2] c Q
  refine cq_ic dX4_addShortBase_92 ?_
  obtain ⟨hr4, h⟩ := h
  refine cq_sub dX4_addShortBase_93 ?_
  refine cq_g (pc' := 95) (ls' := [some (.ref r0), some (.ref w0)]) (st' := [.ref w0, .int (iI (((yT c w0).length : Int) - 2)), .ref w0, .ref b2]) dX4_addShortBase_94 (fun _ _ => rfl) ?_
  obtain ⟨hK5, h⟩ := h
  refine cq_call (th := false) (rest := [.int (iI (((yT c w0).length : Int) - 2)), .ref w0, .ref b2]) (ls2 := [some (.ref w0)]) (pc' := 98) dX4_addShortBase_95 (fun _ _ => ex_calV rfl (by decide)) rfl (Nat.le_of_ble_eq_true rfl) (Nat.le_of_ble_eq_true rfl) (Nat.le_of_ble_eq_true rfl) (cr_rcv rfl rfl (by decide) hK5) rfl rfl rfl (fun q => nomatch q) (t54 hK5 ?_)
  show CW g B O 44 98 [some (.ref r0), some (.ref w0)] [.int (iI ((yT c w0).length : Int)), .int (iI (((yT c w0).length : Int) - 2)), .ref w0, .ref b2] c Q
  obtain ⟨hK6, hK7, hK7n, hl8, h⟩ := h
  refine cq_call (th := false) (rest := []) (ls2 := [some (.ref b2), some (.ref w0), some (.int (iI (((yT c w0).length : Int) - 2))), some (.int (iI ((yT c w0).length : Int))), none]) (pc' := 101) dX4_addShortBase_98 (fun _ _ => ex_calV rfl (by decide)) rfl (Nat.le_of_ble_eq_true rfl) (Nat.le_of_ble_eq_true rfl) (Nat.le_of_ble_eq_true rfl) (cr_rcv rfl rfl (by decide) hK6) rfl rfl rfl (fun q => nomatch q) (t61 hK6 hK7 hK7n hr4 (crT hRc hK5) hl8 ?_)
  show CW g B O 44 101 [some (.ref r0), some (.ref w0)] [] (wT c b2 (yT c b2 ++ prt (yT c w0) (((yT c w0).length : Int) - 2) ((yT c w0).length : Int))) Q
  generalize ed9 : wT c b2 (yT c b2 ++ prt (yT c w0) (((yT c w0).length : Int) - 2) ((yT c w0).length : Int)) = d9
  replace h := h _ ed9.symm
  refine cq_R (fun hRd9 => ?_)
  exact cq_vret dX4_addShortBase_101 rfl h
theorem c45_0 {c : CS} {Q : Rs → CS → Prop} {r0 : Nat} {x1 : Int}
    (h : yK c r0 = 6 ∧ ∃ b2, yP c r0 1 = some b2 ∧ (yK c b2 = 5 ∧ CW g B O 19 0 [some (.ref b2)] [] c (CK g B O 45 7 [some (.ref r0), some (.int (iI x1))] [] Q false))) (hx1 : (-2147483648 : Int) ≤ x1 ∧ x1 ≤ 2147483647 := by omega) :
    CW g B O 45 0 [some (.ref r0), some (.int (iI x1))] [] c Q := by
  refine cq_R (fun hRc => ?_)
  refine cq_g (pc' := 1) (ls' := [some (.ref r0), some (.int (iI x1))]) (st' := [.ref r0]) dX4_addLongBase_0 (fun _ _ => rfl) ?_
  obtain ⟨hK1, b2, hP, h⟩ := h
  refine cq_getP dX4_addLongBase_1 rfl (by decide) rfl (by unfold plK; decide) hK1 hP ?_
  obtain ⟨hK3, h⟩ := h
  exact cq_call (th := false) (rest := []) (ls2 := [some (.ref b2)]) (pc' := 7) dX4_addLongBase_4 (fun _ _ => ex_calV rfl (by decide)) rfl (Nat.le_of_ble_eq_true rfl) (Nat.le_of_ble_eq_true rfl) (Nat.le_of_ble_eq_true rfl) (cr_rcv rfl rfl (by decide) hK3) rfl rfl rfl (fun q => nomatch q) h
theorem c45_7 {c : CS} {Q : Rs → CS → Prop} {r0 : Nat} {x1 : Int} {u0 : Int}
    (h : (¬ u0 = 0 → (x1 = 0 → CW g B O 45 62 [some (.ref r0), some (.int (iI x1))] [] c Q) ∧ (¬ x1 = 0 → yK c r0 = 6 ∧ ∃ b2, yP c r0 1 = some b2 ∧ (yK c b2 = 5 ∧ CW g B O 30 0 [some (.ref b2), some (.int (iI 0))] [] c (CK g B O 45 39 [some (.ref r0), some (.int (iI x1))] [] Q false)))) ∧ (u0 = 0 → yK c r0 = 6 ∧ ∃ b5, yP c r0 5 = some b5 ∧ (yK c r0 = 6 ∧ ∃ b7, yP c r0 0 = some b7 ∧ (yK c b7 = 2 ∧ ∃ b9, yP c b7 2 = some b9 ∧ (yK c b5 = 7 ∧ yK c b9 = 7 ∧ (yT c b5).length + (yT c b9).length ≤ 1024 ∧ (∀ d13, d13 = wT c b5 (yT c b5 ++ yT c b9) → CW g B O 45 74 [some (.ref r0), some (.int (iI x1))] [] d13 Q)))))) (hx1 : (-2147483648 : Int) ≤ x1 ∧ x1 ≤ 2147483647 := by omega) (hu0 : (-2147483648 : Int) ≤ u0 ∧ u0 ≤ 2147483647 := by omega) :
    CW g B O 45 7 [some (.ref r0), some (.int (iI x1))] [.int (iI u0)] c Q := by
  refine cq_R (fun hRc => ?_)
  obtain ⟨h1, h2⟩ := h
  refine cq_if (t := 27) dX4_addLongBase_7 (by decide) (d_ne hu0 (by decide)) (fun q => ?_) (fun q => ?_)
  · have h := h1 q
    refine cq_g (pc' := 28) (ls' := [some (.ref r0), some (.int (iI x1))]) (st' := [.int (iI x1)]) dX4_addLongBase_27 (fun _ _ => rfl) ?_
    obtain ⟨h1, h2⟩ := h
    refine cq_if (t := 62) dX4_addLongBase_28 (by decide) (d_eq hx1 (by decide)) (fun q => ?_) (fun q => ?_)
    · have h := h1 q
      exact h
    · have h := h2 q
      refine cq_g (pc' := 32) (ls' := [some (.ref r0), some (.int (iI x1))]) (st' := [.ref r0]) dX4_addLongBase_31 (fun _ _ => rfl) ?_
      obtain ⟨hK1, b2, hP, h⟩ := h
      refine cq_getP dX4_addLongBase_32 rfl (by decide) rfl (by unfold plK; decide) hK1 hP ?_
      refine cq_ic dX4_addLongBase_35 ?_
      obtain ⟨hK3, h⟩ := h
      exact cq_call (th := false) (rest := []) (ls2 := [some (.ref b2), some (.int (iI 0))]) (pc' := 39) dX4_addLongBase_36 (fun _ _ => ex_calV rfl (by decide)) rfl (Nat.le_of_ble_eq_true rfl) (Nat.le_of_ble_eq_true rfl) (Nat.le_of_ble_eq_true rfl) (cr_rcv rfl rfl (by decide) hK3) rfl rfl rfl (fun q => nomatch q) h
  · have h := h2 (Decidable.of_not_not q)
    refine cq_g (pc' := 11) (ls' := [some (.ref r0), some (.int (iI x1))]) (st' := [.ref r0]) dX4_addLongBase_10 (fun _ _ => rfl) ?_
    obtain ⟨hK4, b5, hP, h⟩ := h
    refine cq_getP dX4_addLongBase_11 rfl (by decide) rfl (by unfold plK; decide) hK4 hP ?_
    refine cq_g (pc' := 15) (ls' := [some (.ref r0), some (.int (iI x1))]) (st' := [.ref r0, .ref b5]) dX4_addLongBase_14 (fun _ _ => rfl) ?_
    obtain ⟨hK6, b7, hP, h⟩ := h
    refine cq_getP dX4_addLongBase_15 rfl (by decide) rfl (by unfold plK; decide) hK6 hP ?_
    obtain ⟨hK8, b9, hP, h⟩ := h
    refine cq_getP dX4_addLongBase_18 rfl (by decide) rfl (by unfold plK; decide) hK8 hP ?_
    obtain ⟨hK10, hK11, hl12, h⟩ := h
    refine cq_call (th := false) (rest := []) (ls2 := [some (.ref b5), some (.ref b9)]) (pc' := 24) dX4_addLongBase_21 (fun _ _ => ex_calV rfl (by decide)) rfl (Nat.le_of_ble_eq_true rfl) (Nat.le_of_ble_eq_true rfl) (Nat.le_of_ble_eq_true rfl) (cr_rcv rfl rfl (by decide) hK10) rfl rfl rfl (fun q => nomatch q) (t60 hK10 hK11 hl12 ?_)
    show CW g B O 45 24 [some (.ref r0), some (.int (iI x1))] [] (wT c b5 (yT c b5 ++ yT c b9)) Q
    generalize ed13 : wT c b5 (yT c b5 ++ yT c b9) = d13
    replace h := h _ ed13.symm
    refine cq_R (fun hRd13 => ?_)
    refine cq_goto (t := 74) dX4_addLongBase_24 (by decide) ?_
    exact h
theorem c45_39 {c : CS} {Q : Rs → CS → Prop} {r0 : Nat} {l1 : Option Value} {u0 : Int}
    (h : (u0 = 0 → CW g B O 45 62 [some (.ref r0), l1] [] c Q) ∧ (¬ u0 = 0 → yK c r0 = 6 ∧ ∃ b2, yP c r0 5 = some b2 ∧ (yK c r0 = 6 ∧ ∃ b4, yP c r0 4 = some b4 ∧ (yK c b2 = 7 ∧ yK c b4 = 7 ∧ (yT c b2).length + (yT c b4).length ≤ 1024 ∧ (∀ d8, d8 = wT c b2 (yT c b2 ++ yT c b4) → yK d8 r0 = 6 ∧ ∃ b10, yP d8 r0 5 = some b10 ∧ (yK d8 b10 = 7 ∧ ((0 : Int) ≤ 32 ∧ (32 : Int) ≤ 65535) ∧ (yT d8 b10).length < 1024 ∧ (∀ d14, d14 = wT d8 b10 (yT d8 b10 ++ [32]) → CW g B O 45 62 [some (.ref r0), l1] [] d14 Q))))))) (hu0 : (-2147483648 : Int) ≤ u0 ∧ u0 ≤ 2147483647 := by omega) :
    CW g B O 45 39 [some (.ref r0), l1] [.int (iI u0)] c Q := by
  refine cq_R (fun hRc => ?_)
  obtain ⟨h1, h2⟩ := h
  refine cq_if (t := 62) dX4_addLongBase_39 (by decide) (d_eq hu0 (by decide)) (fun q => ?_) (fun q => ?_)
  · have h := h1 q
    exact h
  · have h := h2 q
    refine cq_g (pc' := 43) (ls' := [some (.ref r0), l1]) (st' := [.ref r0]) dX4_addLongBase_42 (fun _ _ => rfl) ?_
    obtain ⟨hK1, b2, hP, h⟩ := h
    refine cq_getP dX4_addLongBase_43 rfl (by decide) rfl (by unfold plK; decide) hK1 hP ?_
    refine cq_g (pc' := 47) (ls' := [some (.ref r0), l1]) (st' := [.ref r0, .ref b2]) dX4_addLongBase_46 (fun _ _ => rfl) ?_
    obtain ⟨hK3, b4, hP, h⟩ := h
    refine cq_getP dX4_addLongBase_47 rfl (by decide) rfl (by unfold plK; decide) hK3 hP ?_
    obtain ⟨hK5, hK6, hl7, h⟩ := h
    refine cq_call (th := false) (rest := []) (ls2 := [some (.ref b2), some (.ref b4)]) (pc' := 53) dX4_addLongBase_50 (fun _ _ => ex_calV rfl (by decide)) rfl (Nat.le_of_ble_eq_true rfl) (Nat.le_of_ble_eq_true rfl) (Nat.le_of_ble_eq_true rfl) (cr_rcv rfl rfl (by decide) hK5) rfl rfl rfl (fun q => nomatch q) (t60 hK5 hK6 hl7 ?_)
    show CW g B O 45 53 [some (.ref r0), l1] [] (wT c b2 (yT c b2 ++ yT c b4)) Q
    generalize ed8 : wT c b2 (yT c b2 ++ yT c b4) = d8
    replace h := h _ ed8.symm
    refine cq_R (fun hRd8 => ?_)
    refine cq_g (pc' := 54) (ls' := [some (.ref r0), l1]) (st' := [.ref r0]) dX4_addLongBase_53 (fun _ _ => rfl) ?_
    obtain ⟨hK9, b10, hP, h⟩ := h
    refine cq_getP dX4_addLongBase_54 rfl (by decide) rfl (by unfold plK; decide) hK9 hP ?_
    refine cq_bi dX4_addLongBase_57 (by decide) ?_
    obtain ⟨hK11, hx12, hl13, h⟩ := h
    refine cq_call (th := false) (rest := []) (ls2 := [some (.ref b10), some (.int (iI 32)), none]) (pc' := 62) dX4_addLongBase_59 (fun _ _ => ex_calV rfl (by decide)) rfl (Nat.le_of_ble_eq_true rfl) (Nat.le_of_ble_eq_true rfl) (Nat.le_of_ble_eq_true rfl) (cr_rcv rfl rfl (by decide) hK11) rfl rfl rfl (fun q => nomatch q) (t57 hK11 hx12 hl13 ?_)
    show CW g B O 45 62 [some (.ref r0), l1] [] (wT d8 b10 (yT d8 b10 ++ [32])) Q
    generalize ed14 : wT d8 b10 (yT d8 b10 ++ [32]) = d14
    replace h := h _ ed14.symm
    refine cq_R (fun hRd14 => ?_)
    exact h
theorem c45_62 {c : CS} {Q : Rs → CS → Prop} {r0 : Nat} {l1 : Option Value}
    (h : yK c r0 = 6 ∧ ∃ b2, yP c r0 1 = some b2 ∧ (yK c r0 = 6 ∧ ∃ b4, yP c r0 5 = some b4 ∧ (yK c b2 = 5 ∧ CW g B O 31 0 [some (.ref b2), some (.int (iI 0)), some (.ref b4)] [] c (CK g B O 45 74 [some (.ref r0), l1] [] Q false))))  :
    CW g B O 45 62 [some (.ref r0), l1] [] c Q := by
  refine cq_R (fun hRc => ?_)
  refine cq_g (pc' := 63) (ls' := [some (.ref r0), l1]) (st' := [.ref r0]) dX4_addLongBase_62 (fun _ _ => rfl) ?_
  obtain ⟨hK1, b2, hP, h⟩ := h
  refine cq_getP dX4_addLongBase_63 rfl (by decide) rfl (by unfold plK; decide) hK1 hP ?_
  refine cq_ic dX4_addLongBase_66 ?_
  refine cq_g (pc' := 68) (ls' := [some (.ref r0), l1]) (st' := [.ref r0, .int (iI 0), .ref b2]) dX4_addLongBase_67 (fun _ _ => rfl) ?_
  obtain ⟨hK3, b4, hP, h⟩ := h
  refine cq_getP dX4_addLongBase_68 rfl (by decide) rfl (by unfold plK; decide) hK3 hP ?_
  obtain ⟨hK5, h⟩ := h
  exact cq_call (th := false) (rest := []) (ls2 := [some (.ref b2), some (.int (iI 0)), some (.ref b4)]) (pc' := 74) dX4_addLongBase_71 (fun _ _ => ex_calV rfl (by decide)) rfl (Nat.le_of_ble_eq_true rfl) (Nat.le_of_ble_eq_true rfl) (Nat.le_of_ble_eq_true rfl) (cr_rcv rfl rfl (by decide) hK5) rfl rfl rfl (fun q => nomatch q) h
theorem c45_74 {c : CS} {Q : Rs → CS → Prop} {r0 : Nat} {l1 : Option Value}
    (h : yK c r0 = 6 ∧ ∃ b2, yP c r0 1 = some b2 ∧ (yK c b2 = 5 ∧ CW g B O 19 0 [some (.ref b2)] [] c (CK g B O 45 81 [some (.ref r0), l1] [] Q false)))  :
    CW g B O 45 74 [some (.ref r0), l1] [] c Q := by
  refine cq_R (fun hRc => ?_)
  refine cq_g (pc' := 75) (ls' := [some (.ref r0), l1]) (st' := [.ref r0]) dX4_addLongBase_74 (fun _ _ => rfl) ?_
  obtain ⟨hK1, b2, hP, h⟩ := h
  refine cq_getP dX4_addLongBase_75 rfl (by decide) rfl (by unfold plK; decide) hK1 hP ?_
  obtain ⟨hK3, h⟩ := h
  exact cq_call (th := false) (rest := []) (ls2 := [some (.ref b2)]) (pc' := 81) dX4_addLongBase_78 (fun _ _ => ex_calV rfl (by decide)) rfl (Nat.le_of_ble_eq_true rfl) (Nat.le_of_ble_eq_true rfl) (Nat.le_of_ble_eq_true rfl) (cr_rcv rfl rfl (by decide) hK3) rfl rfl rfl (fun q => nomatch q) h
theorem c45_81 {c : CS} {Q : Rs → CS → Prop} {r0 : Nat} {l1 : Option Value} {u0 : Int}
    (h : (¬ u0 = 2 → yK c r0 = 6 ∧ ∃ b2, yP c r0 1 = some b2 ∧ (yK c b2 = 5 ∧ CW g B O 19 0 [some (.ref b2)] [] c (CK g B O 45 116 [some (.ref r0), l1] [] Q false))) ∧ (u0 = 2 → yK c r0 = 6 ∧ ∃ b5, yP c r0 5 = some b5 ∧ (yK c b5 = 7 ∧ 1 < 10 ∧ (yT c b5).length + (tx 1).length ≤ 1024 ∧ (∀ d9, d9 = wT c b5 (yT c b5 ++ tx 1) → yK d9 r0 = 6 ∧ ∃ b11, yP d9 r0 1 = some b11 ∧ (yK d9 r0 = 6 ∧ ∃ b13, yP d9 r0 5 = some b13 ∧ (yK d9 b11 = 5 ∧ CW g B O 31 0 [some (.ref b11), some (.int (iI 1)), some (.ref b13)] [] d9 (CK g B O 45 106 [some (.ref r0), l1] [] Q false))))))) (hu0 : (-2147483648 : Int) ≤ u0 ∧ u0 ≤ 2147483647 := by omega) :
    CW g B O 45 81 [some (.ref r0), l1] [.int (iI u0)] c Q := by
  refine cq_R (fun hRc => ?_)
  refine cq_ic dX4_addLongBase_81 ?_
  obtain ⟨h1, h2⟩ := h
  refine cq_icmp (t := 109) dX4_addLongBase_82 (by decide) (d_ne hu0 (by decide)) (fun q => ?_) (fun q => ?_)
  · have h := h1 q
    refine cq_g (pc' := 110) (ls' := [some (.ref r0), l1]) (st' := [.ref r0]) dX4_addLongBase_109 (fun _ _ => rfl) ?_
    obtain ⟨hK1, b2, hP, h⟩ := h
    refine cq_getP dX4_addLongBase_110 rfl (by decide) rfl (by unfold plK; decide) hK1 hP ?_
    obtain ⟨hK3, h⟩ := h
    exact cq_call (th := false) (rest := []) (ls2 := [some (.ref b2)]) (pc' := 116) dX4_addLongBase_113 (fun _ _ => ex_calV rfl (by decide)) rfl (Nat.le_of_ble_eq_true rfl) (Nat.le_of_ble_eq_true rfl) (Nat.le_of_ble_eq_true rfl) (cr_rcv rfl rfl (by decide) hK3) rfl rfl rfl (fun q => nomatch q) h
  · have h := h2 (Decidable.of_not_not q)
    refine cq_g (pc' := 86) (ls' := [some (.ref r0), l1]) (st' := [.ref r0]) dX4_addLongBase_85 (fun _ _ => rfl) ?_
    obtain ⟨hK4, b5, hP, h⟩ := h
    refine cq_getP dX4_addLongBase_86 rfl (by decide) rfl (by unfold plK; decide) hK4 hP ?_
    refine cq_ldcS dX4_addLongBase_89 rfl ?_
    obtain ⟨hK6, hj7, hl8, h⟩ := h
    refine cq_call (th := false) (rest := []) (ls2 := [some (.ref b5), some (.ref (g (100 + 1))), none]) (pc' := 94) dX4_addLongBase_91 (fun _ _ => ex_calV rfl (by decide)) rfl (Nat.le_of_ble_eq_true rfl) (Nat.le_of_ble_eq_true rfl) (Nat.le_of_ble_eq_true rfl) (cr_rcv rfl rfl (by decide) hK6) rfl rfl rfl (fun q => nomatch q) (t59 hK6 hj7 hl8 ?_)
    show CW g B O 45 94 [some (.ref r0), l1] [] (wT c b5 (yT c b5 ++ tx 1)) Q
    generalize ed9 : wT c b5 (yT c b5 ++ tx 1) = d9
    replace h := h _ ed9.symm
    refine cq_R (fun hRd9 => ?_)
    refine cq_g (pc' := 95) (ls' := [some (.ref r0), l1]) (st' := [.ref r0]) dX4_addLongBase_94 (fun _ _ => rfl) ?_
    obtain ⟨hK10, b11, hP, h⟩ := h
    refine cq_getP dX4_addLongBase_95 rfl (by decide) rfl (by unfold plK; decide) hK10 hP ?_
    refine cq_ic dX4_addLongBase_98 ?_
    refine cq_g (pc' := 100) (ls' := [some (.ref r0), l1]) (st' := [.ref r0, .int (iI 1), .ref b11]) dX4_addLongBase_99 (fun _ _ => rfl) ?_
    obtain ⟨hK12, b13, hP, h⟩ := h
    refine cq_getP dX4_addLongBase_100 rfl (by decide) rfl (by unfold plK; decide) hK12 hP ?_
    obtain ⟨hK14, h⟩ := h
    exact cq_call (th := false) (rest := []) (ls2 := [some (.ref b11), some (.int (iI 1)), some (.ref b13)]) (pc' := 106) dX4_addLongBase_103 (fun _ _ => ex_calV rfl (by decide)) rfl (Nat.le_of_ble_eq_true rfl) (Nat.le_of_ble_eq_true rfl) (Nat.le_of_ble_eq_true rfl) (cr_rcv rfl rfl (by decide) hK14) rfl rfl rfl (fun q => nomatch q) h
theorem c45_106 {c : CS} {Q : Rs → CS → Prop} {r0 : Nat} {l1 : Option Value}
    (h : CW g B O 45 129 [some (.ref r0), l1] [] c Q)  :
    CW g B O 45 106 [some (.ref r0), l1] [] c Q := by
  refine cq_R (fun hRc => ?_)
  refine cq_goto (t := 129) dX4_addLongBase_106 (by decide) ?_
  exact h
theorem c45_116 {c : CS} {Q : Rs → CS → Prop} {r0 : Nat} {l1 : Option Value} {u0 : Int}
    (h : (u0 ≤ 2 → CW g B O 45 129 [some (.ref r0), l1] [] c Q) ∧ (2 < u0 → yK c r0 = 6 ∧ ∃ b2, yP c r0 5 = some b2 ∧ (yK c b2 = 7 ∧ 2 < 10 ∧ (yT c b2).length + (tx 2).length ≤ 1024 ∧ (∀ d6, d6 = wT c b2 (yT c b2 ++ tx 2) → CW g B O 45 129 [some (.ref r0), l1] [] d6 Q)))) (hu0 : (-2147483648 : Int) ≤ u0 ∧ u0 ≤ 2147483647 := by omega) :
    CW g B O 45 116 [some (.ref r0), l1] [.int (iI u0)] c Q := by
  refine cq_R (fun hRc => ?_)
  refine cq_ic dX4_addLongBase_116 ?_
  obtain ⟨h1, h2⟩ := h
  refine cq_icmp (t := 129) dX4_addLongBase_117 (by decide) (d_le hu0 (by decide)) (fun q => ?_) (fun q => ?_)
  · have h := h1 q
    exact h
  · have h := h2 (Int.not_le.mp q)
    refine cq_g (pc' := 121) (ls' := [some (.ref r0), l1]) (st' := [.ref r0]) dX4_addLongBase_120 (fun _ _ => rfl) ?_
    obtain ⟨hK1, b2, hP, h⟩ := h
    refine cq_getP dX4_addLongBase_121 rfl (by decide) rfl (by unfold plK; decide) hK1 hP ?_
    refine cq_ldcS dX4_addLongBase_124 rfl ?_
    obtain ⟨hK3, hj4, hl5, h⟩ := h
    refine cq_call (th := false) (rest := []) (ls2 := [some (.ref b2), some (.ref (g (100 + 2))), none]) (pc' := 129) dX4_addLongBase_126 (fun _ _ => ex_calV rfl (by decide)) rfl (Nat.le_of_ble_eq_true rfl) (Nat.le_of_ble_eq_true rfl) (Nat.le_of_ble_eq_true rfl) (cr_rcv rfl rfl (by decide) hK3) rfl rfl rfl (fun q => nomatch q) (t59 hK3 hj4 hl5 ?_)
    show CW g B O 45 129 [some (.ref r0), l1] [] (wT c b2 (yT c b2 ++ tx 2)) Q
    generalize ed6 : wT c b2 (yT c b2 ++ tx 2) = d6
    replace h := h _ ed6.symm
    refine cq_R (fun hRd6 => ?_)
    exact h
theorem c45_129 {c : CS} {Q : Rs → CS → Prop} {r0 : Nat} {l1 : Option Value}
    (h : yK c r0 = 6 ∧ ∃ b2, yP c r0 0 = some b2 ∧ (yK c b2 = 2 ∧ CW g B O 2 0 [some (.ref b2), some (.int (iI 2))] [] c (CK g B O 45 137 [some (.ref r0), l1] [] Q false)))  :
    CW g B O 45 129 [some (.ref r0), l1] [] c Q := by
  refine cq_R (fun hRc => ?_)
  refine cq_g (pc' := 130) (ls' := [some (.ref r0), l1]) (st' := [.ref r0]) dX4_addLongBase_129 (fun _ _ => rfl) ?_
  obtain ⟨hK1, b2, hP, h⟩ := h
  refine cq_getP dX4_addLongBase_130 rfl (by decide) rfl (by unfold plK; decide) hK1 hP ?_
  refine cq_ic dX4_addLongBase_133 ?_
  obtain ⟨hK3, h⟩ := h
  exact cq_call (th := false) (rest := []) (ls2 := [some (.ref b2), some (.int (iI 2))]) (pc' := 137) dX4_addLongBase_134 (fun _ _ => ex_calV rfl (by decide)) rfl (Nat.le_of_ble_eq_true rfl) (Nat.le_of_ble_eq_true rfl) (Nat.le_of_ble_eq_true rfl) (cr_rcv rfl rfl (by decide) hK3) rfl rfl rfl (fun q => nomatch q) h
theorem c45_137 {c : CS} {Q : Rs → CS → Prop} {r0 : Nat} {l1 : Option Value} {u0 : Int}
    (h : (u0 = 0 → CW g B O 45 164 [some (.ref r0), l1] [] c Q) ∧ (¬ u0 = 0 → yK c r0 = 6 ∧ ∃ b2, yP c r0 5 = some b2 ∧ (yK c b2 = 7 ∧ ((0 : Int) ≤ 32 ∧ (32 : Int) ≤ 65535) ∧ (yT c b2).length < 1024 ∧ (∀ d6, d6 = wT c b2 (yT c b2 ++ [32]) → yK d6 r0 = 6 ∧ ∃ b8, yP d6 r0 5 = some b8 ∧ (yK d6 r0 = 6 ∧ ∃ b10, yP d6 r0 0 = some b10 ∧ (yK d6 b10 = 2 ∧ CW g B O 3 0 [some (.ref b10), some (.int (iI 2)), none, none, none, none] [] d6 (CK g B O 45 161 [some (.ref r0), l1] [.ref b8] Q false))))))) (hu0 : (-2147483648 : Int) ≤ u0 ∧ u0 ≤ 2147483647 := by omega) :
    CW g B O 45 137 [some (.ref r0), l1] [.int (iI u0)] c Q := by
  refine cq_R (fun hRc => ?_)
  obtain ⟨h1, h2⟩ := h
  refine cq_if (t := 164) dX4_addLongBase_137 (by decide) (d_eq hu0 (by decide)) (fun q => ?_) (fun q => ?_)
  · have h := h1 q
    exact h
  · have h := h2 q
    refine cq_g (pc' := 141) (ls' := [some (.ref r0), l1]) (st' := [.ref r0]) dX4_addLongBase_140 (fun _ _ => rfl) ?_
    obtain ⟨hK1, b2, hP, h⟩ := h
    refine cq_getP dX4_addLongBase_141 rfl (by decide) rfl (by unfold plK; decide) hK1 hP ?_
    refine cq_bi dX4_addLongBase_144 (by decide) ?_
    obtain ⟨hK3, hx4, hl5, h⟩ := h
    refine cq_call (th := false) (rest := []) (ls2 := [some (.ref b2), some (.int (iI 32)), none]) (pc' := 149) dX4_addLongBase_146 (fun _ _ => ex_calV rfl (by decide)) rfl (Nat.le_of_ble_eq_true rfl) (Nat.le_of_ble_eq_true rfl) (Nat.le_of_ble_eq_true rfl) (cr_rcv rfl rfl (by decide) hK3) rfl rfl rfl (fun q => nomatch q) (t57 hK3 hx4 hl5 ?_)
    show CW g B O 45 149 [some (.ref r0), l1] [] (wT c b2 (yT c b2 ++ [32])) Q
    generalize ed6 : wT c b2 (yT c b2 ++ [32]) = d6
    replace h := h _ ed6.symm
    refine cq_R (fun hRd6 => ?_)
    refine cq_g (pc' := 150) (ls' := [some (.ref r0), l1]) (st' := [.ref r0]) dX4_addLongBase_149 (fun _ _ => rfl) ?_
    obtain ⟨hK7, b8, hP, h⟩ := h
    refine cq_getP dX4_addLongBase_150 rfl (by decide) rfl (by unfold plK; decide) hK7 hP ?_
    refine cq_g (pc' := 154) (ls' := [some (.ref r0), l1]) (st' := [.ref r0, .ref b8]) dX4_addLongBase_153 (fun _ _ => rfl) ?_
    obtain ⟨hK9, b10, hP, h⟩ := h
    refine cq_getP dX4_addLongBase_154 rfl (by decide) rfl (by unfold plK; decide) hK9 hP ?_
    refine cq_ic dX4_addLongBase_157 ?_
    obtain ⟨hK11, h⟩ := h
    exact cq_call (th := false) (rest := [.ref b8]) (ls2 := [some (.ref b10), some (.int (iI 2)), none, none, none, none]) (pc' := 161) dX4_addLongBase_158 (fun _ _ => ex_calV rfl (by decide)) rfl (Nat.le_of_ble_eq_true rfl) (Nat.le_of_ble_eq_true rfl) (Nat.le_of_ble_eq_true rfl) (cr_rcv rfl rfl (by decide) hK11) rfl rfl rfl (fun q => nomatch q) h
theorem c45_161 {c : CS} {Q : Rs → CS → Prop} {l0 : Option Value} {l1 : Option Value} {w0 : Nat} {w1 : Nat}
    (h : yK c w1 = 7 ∧ yK c w0 = 7 ∧ (yT c w1).length + (yT c w0).length ≤ 1024 ∧ (∀ d4, d4 = wT c w1 (yT c w1 ++ yT c w0) → CW g B O 45 164 [l0, l1] [] d4 Q))  :
    CW g B O 45 161 [l0, l1] [.ref w0, .ref w1] c Q := by
  refine cq_R (fun hRc => ?_)
  obtain ⟨hK1, hK2, hl3, h⟩ := h
  refine cq_call (th := false) (rest := []) (ls2 := [some (.ref w1), some (.ref w0)]) (pc' := 164) dX4_addLongBase_161 (fun _ _ => ex_calV rfl (by decide)) rfl (Nat.le_of_ble_eq_true rfl) (Nat.le_of_ble_eq_true rfl) (Nat.le_of_ble_eq_true rfl) (cr_rcv rfl rfl (by decide) hK1) rfl rfl rfl (fun q => nomatch q) (t60 hK1 hK2 hl3 ?_)
  show CW g B O 45 164 [l0, l1] [] (wT c w1 (yT c w1 ++ yT c w0)) Q
  generalize ed4 : wT c w1 (yT c w1 ++ yT c w0) = d4
  replace h := h _ ed4.symm
  refine cq_R (fun hRd4 => ?_)
  exact h
theorem c45_164 {c : CS} {Q : Rs → CS → Prop} {l0 : Option Value} {l1 : Option Value}
    (h : Q (Sum.inl none) c)  :
    CW g B O 45 164 [l0, l1] [] c Q := by
  refine cq_R (fun hRc => ?_)
  exact cq_vret dX4_addLongBase_164 rfl h
theorem c46_0 {c : CS} {Q : Rs → CS → Prop} {r0 : Nat} {x1 : Int} {x2 : Int} {l3 : Option Value}
    (h : yK c r0 = 6 ∧ ∃ b2, yP c r0 7 = some b2 ∧ (yK c b2 = 7 ∧ (∀ d4, d4 = wT c b2 [] → yK d4 r0 = 6 ∧ CW g B O 47 0 [some (.ref r0), some (.int (iI x1)), some (.int (iI x2))] [] d4 (CK g B O 46 13 [some (.ref r0), some (.int (iI x1)), some (.int (iI x2)), l3] [] Q false)))) (hx1 : (-2147483648 : Int) ≤ x1 ∧ x1 ≤ 2147483647 := by omega) (hx2 : (-2147483648 : Int) ≤ x2 ∧ x2 ≤ 2147483647 := by omega) :
    CW g B O 46 0 [some (.ref r0), some (.int (iI x1)), some (.int (iI x2)), l3] [] c Q := by
  refine cq_R (fun hRc => ?_)
  refine cq_g (pc' := 1) (ls' := [some (.ref r0), some (.int (iI x1)), some (.int (iI x2)), l3]) (st' := [.ref r0]) dX4_writeText_0 (fun _ _ => rfl) ?_
  obtain ⟨hK1, b2, hP, h⟩ := h
  refine cq_getP dX4_writeText_1 rfl (by decide) rfl (by unfold plK; decide) hK1 hP ?_
  obtain ⟨hK3, h⟩ := h
  refine cq_call (th := false) (rest := []) (ls2 := [some (.ref b2)]) (pc' := 7) dX4_writeText_4 (fun _ _ => ex_calV rfl (by decide)) rfl (Nat.le_of_ble_eq_true rfl) (Nat.le_of_ble_eq_true rfl) (Nat.le_of_ble_eq_true rfl) (cr_rcv rfl rfl (by decide) hK3) rfl rfl rfl (fun q => nomatch q) (t53 hK3 ?_)
  show CW g B O 46 7 [some (.ref r0), some (.int (iI x1)), some (.int (iI x2)), l3] [] (wT c b2 []) Q
  generalize ed4 : wT c b2 [] = d4
  replace h := h _ ed4.symm
  refine cq_R (fun hRd4 => ?_)
  refine cq_g (pc' := 8) (ls' := [some (.ref r0), some (.int (iI x1)), some (.int (iI x2)), l3]) (st' := [.ref r0]) dX4_writeText_7 (fun _ _ => rfl) ?_
  refine cq_g (pc' := 9) (ls' := [some (.ref r0), some (.int (iI x1)), some (.int (iI x2)), l3]) (st' := [.int (iI x1), .ref r0]) dX4_writeText_8 (fun _ _ => rfl) ?_
  refine cq_g (pc' := 10) (ls' := [some (.ref r0), some (.int (iI x1)), some (.int (iI x2)), l3]) (st' := [.int (iI x2), .int (iI x1), .ref r0]) dX4_writeText_9 (fun _ _ => rfl) ?_
  obtain ⟨hK5, h⟩ := h
  exact cq_call (th := false) (rest := []) (ls2 := [some (.ref r0), some (.int (iI x1)), some (.int (iI x2))]) (pc' := 13) dX4_writeText_10 (fun _ _ => ex_calV rfl (by decide)) rfl (Nat.le_of_ble_eq_true rfl) (Nat.le_of_ble_eq_true rfl) (Nat.le_of_ble_eq_true rfl) (cr_rcv rfl rfl (by decide) hK5) rfl rfl rfl (fun q => nomatch q) h
theorem c46_13 {c : CS} {Q : Rs → CS → Prop} {r0 : Nat} {l1 : Option Value} {l2 : Option Value} {l3 : Option Value}
    (h : yK c r0 = 6 ∧ ∃ b2, yP c r0 7 = some b2 ∧ (yK c b2 = 7 ∧ yK c r0 = 6 ∧ ∃ b5, yP c r0 1 = some b5 ∧ (yK c b5 = 5 ∧ CW g B O 19 0 [some (.ref b5)] [] c (CK g B O 46 28 [some (.ref r0), l1, (clr l2), some (.int (iI ((yT c b2).length : Int)))] [] Q false))))  :
    CW g B O 46 13 [some (.ref r0), l1, l2, l3] [] c Q := by
  refine cq_R (fun hRc => ?_)
  refine cq_g (pc' := 14) (ls' := [some (.ref r0), l1, l2, l3]) (st' := [.ref r0]) dX4_writeText_13 (fun _ _ => rfl) ?_
  obtain ⟨hK1, b2, hP, h⟩ := h
  refine cq_getP dX4_writeText_14 rfl (by decide) rfl (by unfold plK; decide) hK1 hP ?_
  obtain ⟨hK3, h⟩ := h
  refine cq_call (th := false) (rest := []) (ls2 := [some (.ref b2)]) (pc' := 20) dX4_writeText_17 (fun _ _ => ex_calV rfl (by decide)) rfl (Nat.le_of_ble_eq_true rfl) (Nat.le_of_ble_eq_true rfl) (Nat.le_of_ble_eq_true rfl) (cr_rcv rfl rfl (by decide) hK3) rfl rfl rfl (fun q => nomatch q) (t54 hK3 ?_)
  show CW g B O 46 20 [some (.ref r0), l1, l2, l3] [.int (iI ((yT c b2).length : Int))] c Q
  refine cq_g (pc' := 21) (ls' := [some (.ref r0), l1, (clr l2), some (.int (iI ((yT c b2).length : Int)))]) (st' := []) dX4_writeText_20 (fun _ _ => rfl) ?_
  refine cq_g (pc' := 22) (ls' := [some (.ref r0), l1, (clr l2), some (.int (iI ((yT c b2).length : Int)))]) (st' := [.ref r0]) dX4_writeText_21 (fun _ _ => rfl) ?_
  obtain ⟨hK4, b5, hP, h⟩ := h
  refine cq_getP dX4_writeText_22 rfl (by decide) rfl (by unfold plK; decide) hK4 hP ?_
  obtain ⟨hK6, h⟩ := h
  exact cq_call (th := false) (rest := []) (ls2 := [some (.ref b5)]) (pc' := 28) dX4_writeText_25 (fun _ _ => ex_calV rfl (by decide)) rfl (Nat.le_of_ble_eq_true rfl) (Nat.le_of_ble_eq_true rfl) (Nat.le_of_ble_eq_true rfl) (cr_rcv rfl rfl (by decide) hK6) rfl rfl rfl (fun q => nomatch q) h
theorem c46_28 {c : CS} {Q : Rs → CS → Prop} {r0 : Nat} {l1 : Option Value} {l2 : Option Value} {x3 : Int} {u0 : Int}
    (h : (u0 ≤ 0 → CW g B O 46 47 [some (.ref r0), l1, l2, some (.int (iI x3))] [] c Q) ∧ (0 < u0 → yK c r0 = 6 ∧ CW g B O 48 0 [some (.ref r0), some (.int (iI x3))] [] c (CK g B O 46 36 [some (.ref r0), l1, l2, some (.int (iI x3))] [] Q false))) (hx3 : (-2147483648 : Int) ≤ x3 ∧ x3 ≤ 2147483647 := by omega) (hu0 : (-2147483648 : Int) ≤ u0 ∧ u0 ≤ 2147483647 := by omega) :
    CW g B O 46 28 [some (.ref r0), l1, l2, some (.int (iI x3))] [.int (iI u0)] c Q := by
  refine cq_R (fun hRc => ?_)
  obtain ⟨h1, h2⟩ := h
  refine cq_if (t := 47) dX4_writeText_28 (by decide) (d_le hu0 (by decide)) (fun q => ?_) (fun q => ?_)
  · have h := h1 q
    exact h
  · have h := h2 (Int.not_le.mp q)
    refine cq_g (pc' := 32) (ls' := [some (.ref r0), l1, l2, some (.int (iI x3))]) (st' := [.ref r0]) dX4_writeText_31 (fun _ _ => rfl) ?_
    refine cq_g (pc' := 33) (ls' := [some (.ref r0), l1, l2, some (.int (iI x3))]) (st' := [.int (iI x3), .ref r0]) dX4_writeText_32 (fun _ _ => rfl) ?_
    obtain ⟨hK1, h⟩ := h
    exact cq_call (th := false) (rest := []) (ls2 := [some (.ref r0), some (.int (iI x3))]) (pc' := 36) dX4_writeText_33 (fun _ _ => ex_calV rfl (by decide)) rfl (Nat.le_of_ble_eq_true rfl) (Nat.le_of_ble_eq_true rfl) (Nat.le_of_ble_eq_true rfl) (cr_rcv rfl rfl (by decide) hK1) rfl rfl rfl (fun q => nomatch q) h
theorem c46_36 {c : CS} {Q : Rs → CS → Prop} {r0 : Nat} {l1 : Option Value} {l2 : Option Value} {x3 : Int}
    (h : yK c r0 = 6 ∧ ∃ b2, yP c r0 1 = some b2 ∧ (yK c r0 = 6 ∧ ∃ b4, yP c r0 7 = some b4 ∧ (yK c b2 = 5 ∧ CW g B O 36 0 [some (.ref b2), some (.ref b4), none, none] [] c (CK g B O 46 47 [some (.ref r0), l1, l2, some (.int (iI x3))] [] Q false)))) (hx3 : (-2147483648 : Int) ≤ x3 ∧ x3 ≤ 2147483647 := by omega) :
    CW g B O 46 36 [some (.ref r0), l1, l2, some (.int (iI x3))] [] c Q := by
  refine cq_R (fun hRc => ?_)
  refine cq_g (pc' := 37) (ls' := [some (.ref r0), l1, l2, some (.int (iI x3))]) (st' := [.ref r0]) dX4_writeText_36 (fun _ _ => rfl) ?_
  obtain ⟨hK1, b2, hP, h⟩ := h
  refine cq_getP dX4_writeText_37 rfl (by decide) rfl (by unfold plK; decide) hK1 hP ?_
  refine cq_g (pc' := 41) (ls' := [some (.ref r0), l1, l2, some (.int (iI x3))]) (st' := [.ref r0, .ref b2]) dX4_writeText_40 (fun _ _ => rfl) ?_
  obtain ⟨hK3, b4, hP, h⟩ := h
  refine cq_getP dX4_writeText_41 rfl (by decide) rfl (by unfold plK; decide) hK3 hP ?_
  obtain ⟨hK5, h⟩ := h
  exact cq_call (th := false) (rest := []) (ls2 := [some (.ref b2), some (.ref b4), none, none]) (pc' := 47) dX4_writeText_44 (fun _ _ => ex_calV rfl (by decide)) rfl (Nat.le_of_ble_eq_true rfl) (Nat.le_of_ble_eq_true rfl) (Nat.le_of_ble_eq_true rfl) (cr_rcv rfl rfl (by decide) hK5) rfl rfl rfl (fun q => nomatch q) h
theorem c46_47 {c : CS} {Q : Rs → CS → Prop} {r0 : Nat} {l1 : Option Value} {l2 : Option Value} {x3 : Int}
    (h : yK c r0 = 6 ∧ CW g B O 49 0 [some (.ref r0), some (.int (iI 1)), some (.ref (g (100 + 6))), some (.int (iI x3))] [] c (CK g B O 46 55 [some (.ref r0), l1, l2, some (.int (iI x3))] [] Q false)) (hx3 : (-2147483648 : Int) ≤ x3 ∧ x3 ≤ 2147483647 := by omega) :
    CW g B O 46 47 [some (.ref r0), l1, l2, some (.int (iI x3))] [] c Q := by
  refine cq_R (fun hRc => ?_)
  refine cq_g (pc' := 48) (ls' := [some (.ref r0), l1, l2, some (.int (iI x3))]) (st' := [.ref r0]) dX4_writeText_47 (fun _ _ => rfl) ?_
  refine cq_ic dX4_writeText_48 ?_
  refine cq_ldcS dX4_writeText_49 rfl ?_
  refine cq_g (pc' := 52) (ls' := [some (.ref r0), l1, l2, some (.int (iI x3))]) (st' := [.int (iI x3), .ref (g (100 + 6)), .int (iI 1), .ref r0]) dX4_writeText_51 (fun _ _ => rfl) ?_
  obtain ⟨hK1, h⟩ := h
  exact cq_call (th := false) (rest := []) (ls2 := [some (.ref r0), some (.int (iI 1)), some (.ref (g (100 + 6))), some (.int (iI x3))]) (pc' := 55) dX4_writeText_52 (fun _ _ => ex_calV rfl (by decide)) rfl (Nat.le_of_ble_eq_true rfl) (Nat.le_of_ble_eq_true rfl) (Nat.le_of_ble_eq_true rfl) (cr_rcv rfl rfl (by decide) hK1) rfl rfl rfl (fun q => nomatch q) h
theorem c46_55 {c : CS} {Q : Rs → CS → Prop} {r0 : Nat} {l1 : Option Value} {l2 : Option Value} {x3 : Int}
    (h : yK c r0 = 6 ∧ CW g B O 50 0 [some (.ref r0), some (.int (iI x3))] [] c (CK g B O 46 60 [some (.ref r0), l1, l2, some (.int (iI x3))] [] Q false)) (hx3 : (-2147483648 : Int) ≤ x3 ∧ x3 ≤ 2147483647 := by omega) :
    CW g B O 46 55 [some (.ref r0), l1, l2, some (.int (iI x3))] [] c Q := by
  refine cq_R (fun hRc => ?_)
  refine cq_g (pc' := 56) (ls' := [some (.ref r0), l1, l2, some (.int (iI x3))]) (st' := [.ref r0]) dX4_writeText_55 (fun _ _ => rfl) ?_
  refine cq_g (pc' := 57) (ls' := [some (.ref r0), l1, l2, some (.int (iI x3))]) (st' := [.int (iI x3), .ref r0]) dX4_writeText_56 (fun _ _ => rfl) ?_
  obtain ⟨hK1, h⟩ := h
  exact cq_call (th := false) (rest := []) (ls2 := [some (.ref r0), some (.int (iI x3))]) (pc' := 60) dX4_writeText_57 (fun _ _ => ex_calV rfl (by decide)) rfl (Nat.le_of_ble_eq_true rfl) (Nat.le_of_ble_eq_true rfl) (Nat.le_of_ble_eq_true rfl) (cr_rcv rfl rfl (by decide) hK1) rfl rfl rfl (fun q => nomatch q) h
theorem c46_60 {c : CS} {Q : Rs → CS → Prop} {r0 : Nat} {l1 : Option Value} {l2 : Option Value} {x3 : Int}
    (h : yK c r0 = 6 ∧ CW g B O 49 0 [some (.ref r0), some (.int (iI 2)), some (.ref (g (100 + 6))), some (.int (iI x3))] [] c (CK g B O 46 68 [some (.ref r0), l1, l2, some (.int (iI x3))] [] Q false)) (hx3 : (-2147483648 : Int) ≤ x3 ∧ x3 ≤ 2147483647 := by omega) :
    CW g B O 46 60 [some (.ref r0), l1, l2, some (.int (iI x3))] [] c Q := by
  refine cq_R (fun hRc => ?_)
  refine cq_g (pc' := 61) (ls' := [some (.ref r0), l1, l2, some (.int (iI x3))]) (st' := [.ref r0]) dX4_writeText_60 (fun _ _ => rfl) ?_
  refine cq_ic dX4_writeText_61 ?_
  refine cq_ldcS dX4_writeText_62 rfl ?_
  refine cq_g (pc' := 65) (ls' := [some (.ref r0), l1, l2, some (.int (iI x3))]) (st' := [.int (iI x3), .ref (g (100 + 6)), .int (iI 2), .ref r0]) dX4_writeText_64 (fun _ _ => rfl) ?_
  obtain ⟨hK1, h⟩ := h
  exact cq_call (th := false) (rest := []) (ls2 := [some (.ref r0), some (.int (iI 2)), some (.ref (g (100 + 6))), some (.int (iI x3))]) (pc' := 68) dX4_writeText_65 (fun _ _ => ex_calV rfl (by decide)) rfl (Nat.le_of_ble_eq_true rfl) (Nat.le_of_ble_eq_true rfl) (Nat.le_of_ble_eq_true rfl) (cr_rcv rfl rfl (by decide) hK1) rfl rfl rfl (fun q => nomatch q) h
theorem c46_68 {c : CS} {Q : Rs → CS → Prop} {r0 : Nat} {l1 : Option Value} {l2 : Option Value} {x3 : Int}
    (h : yK c r0 = 6 ∧ ∃ b2, yP c r0 7 = some b2 ∧ (yK c b2 = 7 ∧ (((yT c b2).length : Int) ≤ x3 → CW g B O 46 88 [some (.ref r0), l1, l2, some (.int (iI x3))] [] c Q) ∧ (x3 < ((yT c b2).length : Int) → yK c r0 = 6 ∧ ∃ b5, yP c r0 7 = some b5 ∧ (yK c b5 = 7 ∧ ((0 : Int) ≤ 46 ∧ (46 : Int) ≤ 65535) ∧ (yT c b5).length < 1024 ∧ (∀ d9, d9 = wT c b5 (yT c b5 ++ [46]) → CW g B O 46 88 [some (.ref r0), l1, l2, some (.int (iI x3))] [] d9 Q))))) (hx3 : (-2147483648 : Int) ≤ x3 ∧ x3 ≤ 2147483647 := by omega) :
    CW g B O 46 68 [some (.ref r0), l1, l2, some (.int (iI x3))] [] c Q := by
  refine cq_R (fun hRc => ?_)
  refine cq_g (pc' := 69) (ls' := [some (.ref r0), l1, l2, some (.int (iI x3))]) (st' := [.ref r0]) dX4_writeText_68 (fun _ _ => rfl) ?_
  obtain ⟨hK1, b2, hP, h⟩ := h
  refine cq_getP dX4_writeText_69 rfl (by decide) rfl (by unfold plK; decide) hK1 hP ?_
  obtain ⟨hK3, h⟩ := h
  refine cq_call (th := false) (rest := []) (ls2 := [some (.ref b2)]) (pc' := 75) dX4_writeText_72 (fun _ _ => ex_calV rfl (by decide)) rfl (Nat.le_of_ble_eq_true rfl) (Nat.le_of_ble_eq_true rfl) (Nat.le_of_ble_eq_true rfl) (cr_rcv rfl rfl (by decide) hK3) rfl rfl rfl (fun q => nomatch q) (t54 hK3 ?_)
  show CW g B O 46 75 [some (.ref r0), l1, l2, some (.int (iI x3))] [.int (iI ((yT c b2).length : Int))] c Q
  refine cq_g (pc' := 76) (ls' := [some (.ref r0), l1, l2, some (.int (iI x3))]) (st' := [.int (iI x3), .int (iI ((yT c b2).length : Int))]) dX4_writeText_75 (fun _ _ => rfl) ?_
  obtain ⟨h1, h2⟩ := h
  refine cq_icmp (t := 88) dX4_writeText_76 (by decide) (d_le (crT hRc hK3) hx3) (fun q => ?_) (fun q => ?_)
  · have h := h1 q
    exact h
  · have h := h2 (Int.not_le.mp q)
    refine cq_g (pc' := 80) (ls' := [some (.ref r0), l1, l2, some (.int (iI x3))]) (st' := [.ref r0]) dX4_writeText_79 (fun _ _ => rfl) ?_
    obtain ⟨hK4, b5, hP, h⟩ := h
    refine cq_getP dX4_writeText_80 rfl (by decide) rfl (by unfold plK; decide) hK4 hP ?_
    refine cq_bi dX4_writeText_83 (by decide) ?_
    obtain ⟨hK6, hx7, hl8, h⟩ := h
    refine cq_call (th := false) (rest := []) (ls2 := [some (.ref b5), some (.int (iI 46)), none]) (pc' := 88) dX4_writeText_85 (fun _ _ => ex_calV rfl (by decide)) rfl (Nat.le_of_ble_eq_true rfl) (Nat.le_of_ble_eq_true rfl) (Nat.le_of_ble_eq_true rfl) (cr_rcv rfl rfl (by decide) hK6) rfl rfl rfl (fun q => nomatch q) (t57 hK6 hx7 hl8 ?_)
    show CW g B O 46 88 [some (.ref r0), l1, l2, some (.int (iI x3))] [] (wT c b5 (yT c b5 ++ [46])) Q
    generalize ed9 : wT c b5 (yT c b5 ++ [46]) = d9
    replace h := h _ ed9.symm
    refine cq_R (fun hRd9 => ?_)
    exact h
theorem c46_88 {c : CS} {Q : Rs → CS → Prop} {l0 : Option Value} {l1 : Option Value} {l2 : Option Value} {l3 : Option Value}
    (h : Q (Sum.inl none) c)  :
    CW g B O 46 88 [l0, l1, l2, l3] [] c Q := by
  refine cq_R (fun hRc => ?_)
  exact cq_vret dX4_writeText_88 rfl h
theorem c47_0 {c : CS} {Q : Rs → CS → Prop} {r0 : Nat} {x1 : Int} {x2 : Int}
    (h : yK c r0 = 6 ∧ ∃ b2, yP c r0 7 = some b2 ∧ ((¬ x1 = 2 → CW g B O 47 16 [some (.ref r0), some (.int (iI x1)), some (.int (iI x2))] [.int (iI 91), .ref b2] c Q) ∧ (x1 = 2 → CW g B O 47 16 [some (.ref r0), some (.int (iI x1)), some (.int (iI x2))] [.int (iI 40), .ref b2] c Q))) (hx1 : (-2147483648 : Int) ≤ x1 ∧ x1 ≤ 2147483647 := by omega) (hx2 : (-2147483648 : Int) ≤ x2 ∧ x2 ≤ 2147483647 := by omega) :
    CW g B O 47 0 [some (.ref r0), some (.int (iI x1)), some (.int (iI x2))] [] c Q := by
  refine cq_R (fun hRc => ?_)
  refine cq_g (pc' := 1) (ls' := [some (.ref r0), some (.int (iI x1)), some (.int (iI x2))]) (st' := [.ref r0]) dX4_addLabel_0 (fun _ _ => rfl) ?_
  obtain ⟨hK1, b2, hP, h⟩ := h
  refine cq_getP dX4_addLabel_1 rfl (by decide) rfl (by unfold plK; decide) hK1 hP ?_
  refine cq_g (pc' := 5) (ls' := [some (.ref r0), some (.int (iI x1)), some (.int (iI x2))]) (st' := [.int (iI x1), .ref b2]) dX4_addLabel_4 (fun _ _ => rfl) ?_
  refine cq_ic dX4_addLabel_5 ?_
  obtain ⟨h1, h2⟩ := h
  refine cq_icmp (t := 14) dX4_addLabel_6 (by decide) (d_ne hx1 (by decide)) (fun q => ?_) (fun q => ?_)
  · have h := h1 q
    refine cq_bi dX4_addLabel_14 (by decide) ?_
    exact h
  · have h := h2 (Decidable.of_not_not q)
    refine cq_bi dX4_addLabel_9 (by decide) ?_
    refine cq_goto (t := 16) dX4_addLabel_11 (by decide) ?_
    exact h
theorem c47_16 {c : CS} {Q : Rs → CS → Prop} {r0 : Nat} {x1 : Int} {x2 : Int} {u0 : Int} {w1 : Nat}
    (h : yK c w1 = 7 ∧ ((0 : Int) ≤ u0 ∧ u0 ≤ 65535) ∧ (yT c w1).length < 1024 ∧ (∀ d4, d4 = wT c w1 (yT c w1 ++ [u0]) → (x1 = 1 → CW g B O 47 29 [some (.ref r0), some (.int (iI x1)), some (.int (iI x2))] [] d4 Q) ∧ (¬ x1 = 1 → (¬ x1 = 2 → yK d4 r0 = 6 ∧ ∃ b6, yP d4 r0 7 = some b6 ∧ (((-2147483648 : Int) ≤ x2 + 1 ∧ x2 + 1 ≤ 2147483647) ∧ yK d4 b6 = 7 ∧ ((0 : Int) ≤ x2 + 1 ∧ x2 + 1 ≤ 99) ∧ (yT d4 b6).length + 2 ≤ 1024 ∧ (∀ d11, d11 = wT d4 b6 (yT d4 b6 ++ nmb (x2 + 1)) → CW g B O 47 76 [some (.ref r0), some (.int (iI x1)), some (.int (iI x2))] [] d11 Q))) ∧ (x1 = 2 → CW g B O 47 29 [some (.ref r0), some (.int (iI x1)), some (.int (iI x2))] [] d4 Q)))) (hx1 : (-2147483648 : Int) ≤ x1 ∧ x1 ≤ 2147483647 := by omega) (hx2 : (-2147483648 : Int) ≤ x2 ∧ x2 ≤ 2147483647 := by omega) (hu0 : (-2147483648 : Int) ≤ u0 ∧ u0 ≤ 2147483647 := by omega) :
    CW g B O 47 16 [some (.ref r0), some (.int (iI x1)), some (.int (iI x2))] [.int (iI u0), .ref w1] c Q := by
  refine cq_R (fun hRc => ?_)
  obtain ⟨hK1, hx2, hl3, h⟩ := h
  refine cq_call (th := false) (rest := []) (ls2 := [some (.ref w1), some (.int (iI u0)), none]) (pc' := 19) dX4_addLabel_16 (fun _ _ => ex_calV rfl (by decide)) rfl (Nat.le_of_ble_eq_true rfl) (Nat.le_of_ble_eq_true rfl) (Nat.le_of_ble_eq_true rfl) (cr_rcv rfl rfl (by decide) hK1) rfl rfl rfl (fun q => nomatch q) (t57 hK1 hx2 hl3 ?_)
  show CW g B O 47 19 [some (.ref r0), some (.int (iI x1)), some (.int (iI x2))] [] (wT c w1 (yT c w1 ++ [u0])) Q
  generalize ed4 : wT c w1 (yT c w1 ++ [u0]) = d4
  replace h := h _ ed4.symm
  refine cq_R (fun hRd4 => ?_)
  refine cq_g (pc' := 20) (ls' := [some (.ref r0), some (.int (iI x1)), some (.int (iI x2))]) (st' := [.int (iI x1)]) dX4_addLabel_19 (fun _ _ => rfl) ?_
  refine cq_ic dX4_addLabel_20 ?_
  obtain ⟨h1, h2⟩ := h
  refine cq_icmp (t := 29) dX4_addLabel_21 (by decide) (d_eq hx1 (by decide)) (fun q => ?_) (fun q => ?_)
  · have h := h1 q
    exact h
  · have h := h2 q
    refine cq_g (pc' := 25) (ls' := [some (.ref r0), some (.int (iI x1)), some (.int (iI x2))]) (st' := [.int (iI x1)]) dX4_addLabel_24 (fun _ _ => rfl) ?_
    refine cq_ic dX4_addLabel_25 ?_
    obtain ⟨h1, h2⟩ := h
    refine cq_icmp (t := 66) dX4_addLabel_26 (by decide) (d_ne hx1 (by decide)) (fun q => ?_) (fun q => ?_)
    · have h := h1 q
      refine cq_g (pc' := 67) (ls' := [some (.ref r0), some (.int (iI x1)), some (.int (iI x2))]) (st' := [.ref r0]) dX4_addLabel_66 (fun _ _ => rfl) ?_
      obtain ⟨hK5, b6, hP, h⟩ := h
      refine cq_getP dX4_addLabel_67 rfl (by decide) rfl (by unfold plK; decide) hK5 hP ?_
      refine cq_g (pc' := 71) (ls' := [some (.ref r0), some (.int (iI x1)), some (.int (iI x2))]) (st' := [.int (iI x2), .ref b6]) dX4_addLabel_70 (fun _ _ => rfl) ?_
      refine cq_ic dX4_addLabel_71 ?_
      obtain ⟨hr7, h⟩ := h
      refine cq_add dX4_addLabel_72 ?_
      obtain ⟨hK8, hx9, hl10, h⟩ := h
      refine cq_call (th := false) (rest := []) (ls2 := [some (.ref b6), some (.int (iI (x2 + 1)))]) (pc' := 76) dX4_addLabel_73 (fun _ _ => ex_calV rfl (by decide)) rfl (Nat.le_of_ble_eq_true rfl) (Nat.le_of_ble_eq_true rfl) (Nat.le_of_ble_eq_true rfl) (cr_rcv rfl rfl (by decide) hK8) rfl rfl rfl (fun q => nomatch q) (t62 hK8 hx9 hl10 ?_)
      show CW g B O 47 76 [some (.ref r0), some (.int (iI x1)), some (.int (iI x2))] [] (wT d4 b6 (yT d4 b6 ++ nmb (x2 + 1))) Q
      generalize ed11 : wT d4 b6 (yT d4 b6 ++ nmb (x2 + 1)) = d11
      replace h := h _ ed11.symm
      refine cq_R (fun hRd11 => ?_)
      exact h
    · have h := h2 (Decidable.of_not_not q)
      exact h
theorem c47_29 {c : CS} {Q : Rs → CS → Prop} {r0 : Nat} {x1 : Int} {l2 : Option Value}
    (h : yK c r0 = 6 ∧ ∃ b2, yP c r0 7 = some b2 ∧ (yK c r0 = 6 ∧ ∃ b4, yP c r0 5 = some b4 ∧ (yK c b2 = 7 ∧ yK c b4 = 7 ∧ (yT c b2).length + (yT c b4).length ≤ 1024 ∧ (∀ d8, d8 = wT c b2 (yT c b2 ++ yT c b4) → yK d8 r0 = 6 ∧ (yI d8 r0 6 ≤ 0 → CW g B O 47 76 [some (.ref r0), some (.int (iI x1)), l2] [] d8 Q) ∧ (0 < yI d8 r0 6 → yK d8 r0 = 6 ∧ ∃ b11, yP d8 r0 7 = some b11 ∧ (yK d8 r0 = 6 ∧ ((-2147483648 : Int) ≤ 97 + (yI d8 r0 6) ∧ 97 + (yI d8 r0 6) ≤ 2147483647) ∧ ((-2147483648 : Int) ≤ (97 + (yI d8 r0 6)) - 1 ∧ (97 + (yI d8 r0 6)) - 1 ≤ 2147483647) ∧ yK d8 b11 = 7 ∧ ((0 : Int) ≤ (97 + (yI d8 r0 6)) - 1 ∧ (97 + (yI d8 r0 6)) - 1 ≤ 65535) ∧ (yT d8 b11).length < 1024 ∧ (∀ d18, d18 = wT d8 b11 (yT d8 b11 ++ [(97 + (yI d8 r0 6)) - 1]) → CW g B O 47 76 [some (.ref r0), some (.int (iI x1)), l2] [] d18 Q))))))) (hx1 : (-2147483648 : Int) ≤ x1 ∧ x1 ≤ 2147483647 := by omega) :
    CW g B O 47 29 [some (.ref r0), some (.int (iI x1)), l2] [] c Q := by
  refine cq_R (fun hRc => ?_)
  refine cq_g (pc' := 30) (ls' := [some (.ref r0), some (.int (iI x1)), l2]) (st' := [.ref r0]) dX4_addLabel_29 (fun _ _ => rfl) ?_
  obtain ⟨hK1, b2, hP, h⟩ := h
  refine cq_getP dX4_addLabel_30 rfl (by decide) rfl (by unfold plK; decide) hK1 hP ?_
  refine cq_g (pc' := 34) (ls' := [some (.ref r0), some (.int (iI x1)), l2]) (st' := [.ref r0, .ref b2]) dX4_addLabel_33 (fun _ _ => rfl) ?_
  obtain ⟨hK3, b4, hP, h⟩ := h
  refine cq_getP dX4_addLabel_34 rfl (by decide) rfl (by unfold plK; decide) hK3 hP ?_
  obtain ⟨hK5, hK6, hl7, h⟩ := h
  refine cq_call (th := false) (rest := []) (ls2 := [some (.ref b2), some (.ref b4)]) (pc' := 40) dX4_addLabel_37 (fun _ _ => ex_calV rfl (by decide)) rfl (Nat.le_of_ble_eq_true rfl) (Nat.le_of_ble_eq_true rfl) (Nat.le_of_ble_eq_true rfl) (cr_rcv rfl rfl (by decide) hK5) rfl rfl rfl (fun q => nomatch q) (t60 hK5 hK6 hl7 ?_)
  show CW g B O 47 40 [some (.ref r0), some (.int (iI x1)), l2] [] (wT c b2 (yT c b2 ++ yT c b4)) Q
  generalize ed8 : wT c b2 (yT c b2 ++ yT c b4) = d8
  replace h := h _ ed8.symm
  refine cq_R (fun hRd8 => ?_)
  refine cq_g (pc' := 41) (ls' := [some (.ref r0), some (.int (iI x1)), l2]) (st' := [.ref r0]) dX4_addLabel_40 (fun _ _ => rfl) ?_
  obtain ⟨hK9, h⟩ := h
  refine cq_getI dX4_addLabel_41 rfl (by decide) rfl (by unfold plK; decide) hK9 ?_
  obtain ⟨h1, h2⟩ := h
  refine cq_if (t := 76) dX4_addLabel_44 (by decide) (d_le (hRd8.1 _ _) (by decide)) (fun q => ?_) (fun q => ?_)
  · have h := h1 q
    exact h
  · have h := h2 (Int.not_le.mp q)
    refine cq_g (pc' := 48) (ls' := [some (.ref r0), some (.int (iI x1)), l2]) (st' := [.ref r0]) dX4_addLabel_47 (fun _ _ => rfl) ?_
    obtain ⟨hK10, b11, hP, h⟩ := h
    refine cq_getP dX4_addLabel_48 rfl (by decide) rfl (by unfold plK; decide) hK10 hP ?_
    refine cq_bi dX4_addLabel_51 (by decide) ?_
    refine cq_g (pc' := 54) (ls' := [some (.ref r0), some (.int (iI x1)), l2]) (st' := [.ref r0, .int (iI 97), .ref b11]) dX4_addLabel_53 (fun _ _ => rfl) ?_
    obtain ⟨hK12, h⟩ := h
    refine cq_getI dX4_addLabel_54 rfl (by decide) rfl (by unfold plK; decide) hK12 ?_
    obtain ⟨hr13, h⟩ := h
    refine cq_add dX4_addLabel_57 ?_
    refine cq_ic dX4_addLabel_58 ?_
    obtain ⟨hr14, h⟩ := h
    refine cq_sub dX4_addLabel_59 ?_
    obtain ⟨hK15, hx16, hl17, h⟩ := h
    refine cq_call (th := false) (rest := []) (ls2 := [some (.ref b11), some (.int (iI ((97 + (yI d8 r0 6)) - 1))), none]) (pc' := 63) dX4_addLabel_60 (fun _ _ => ex_calV rfl (by decide)) rfl (Nat.le_of_ble_eq_true rfl) (Nat.le_of_ble_eq_true rfl) (Nat.le_of_ble_eq_true rfl) (cr_rcv rfl rfl (by decide) hK15) rfl rfl rfl (fun q => nomatch q) (t57 hK15 hx16 hl17 ?_)
    show CW g B O 47 63 [some (.ref r0), some (.int (iI x1)), l2] [] (wT d8 b11 (yT d8 b11 ++ [(97 + (yI d8 r0 6)) - 1])) Q
    generalize ed18 : wT d8 b11 (yT d8 b11 ++ [(97 + (yI d8 r0 6)) - 1]) = d18
    replace h := h _ ed18.symm
    refine cq_R (fun hRd18 => ?_)
    refine cq_goto (t := 76) dX4_addLabel_63 (by decide) ?_
    exact h
theorem c47_76 {c : CS} {Q : Rs → CS → Prop} {r0 : Nat} {x1 : Int} {l2 : Option Value}
    (h : yK c r0 = 6 ∧ ∃ b2, yP c r0 7 = some b2 ∧ ((¬ x1 = 2 → CW g B O 47 92 [some (.ref r0), some (.int (iI x1)), l2] [.int (iI 93), .ref b2] c Q) ∧ (x1 = 2 → CW g B O 47 92 [some (.ref r0), some (.int (iI x1)), l2] [.int (iI 41), .ref b2] c Q))) (hx1 : (-2147483648 : Int) ≤ x1 ∧ x1 ≤ 2147483647 := by omega) :
    CW g B O 47 76 [some (.ref r0), some (.int (iI x1)), l2] [] c Q := by
  refine cq_R (fun hRc => ?_)
  refine cq_g (pc' := 77) (ls' := [some (.ref r0), some (.int (iI x1)), l2]) (st' := [.ref r0]) dX4_addLabel_76 (fun _ _ => rfl) ?_
  obtain ⟨hK1, b2, hP, h⟩ := h
  refine cq_getP dX4_addLabel_77 rfl (by decide) rfl (by unfold plK; decide) hK1 hP ?_
  refine cq_g (pc' := 81) (ls' := [some (.ref r0), some (.int (iI x1)), l2]) (st' := [.int (iI x1), .ref b2]) dX4_addLabel_80 (fun _ _ => rfl) ?_
  refine cq_ic dX4_addLabel_81 ?_
  obtain ⟨h1, h2⟩ := h
  refine cq_icmp (t := 90) dX4_addLabel_82 (by decide) (d_ne hx1 (by decide)) (fun q => ?_) (fun q => ?_)
  · have h := h1 q
    refine cq_bi dX4_addLabel_90 (by decide) ?_
    exact h
  · have h := h2 (Decidable.of_not_not q)
    refine cq_bi dX4_addLabel_85 (by decide) ?_
    refine cq_goto (t := 92) dX4_addLabel_87 (by decide) ?_
    exact h
theorem c47_92 {c : CS} {Q : Rs → CS → Prop} {l0 : Option Value} {l1 : Option Value} {l2 : Option Value} {u0 : Int} {w1 : Nat}
    (h : yK c w1 = 7 ∧ ((0 : Int) ≤ u0 ∧ u0 ≤ 65535) ∧ (yT c w1).length < 1024 ∧ (∀ d4, d4 = wT c w1 (yT c w1 ++ [u0]) → Q (Sum.inl none) d4)) (hu0 : (-2147483648 : Int) ≤ u0 ∧ u0 ≤ 2147483647 := by omega) :
    CW g B O 47 92 [l0, l1, l2] [.int (iI u0), .ref w1] c Q := by
  refine cq_R (fun hRc => ?_)
  obtain ⟨hK1, hx2, hl3, h⟩ := h
  refine cq_call (th := false) (rest := []) (ls2 := [some (.ref w1), some (.int (iI u0)), none]) (pc' := 95) dX4_addLabel_92 (fun _ _ => ex_calV rfl (by decide)) rfl (Nat.le_of_ble_eq_true rfl) (Nat.le_of_ble_eq_true rfl) (Nat.le_of_ble_eq_true rfl) (cr_rcv rfl rfl (by decide) hK1) rfl rfl rfl (fun q => nomatch q) (t57 hK1 hx2 hl3 ?_)
  show CW g B O 47 95 [l0, l1, l2] [] (wT c w1 (yT c w1 ++ [u0])) Q
  generalize ed4 : wT c w1 (yT c w1 ++ [u0]) = d4
  replace h := h _ ed4.symm
  refine cq_R (fun hRd4 => ?_)
  exact cq_vret dX4_addLabel_95 rfl h
theorem c48_0 {c : CS} {Q : Rs → CS → Prop} {r0 : Nat} {x1 : Int}
    (h : yK c r0 = 6 ∧ ∃ b2, yP c r0 7 = some b2 ∧ (yK c r0 = 6 ∧ ∃ b4, yP c r0 7 = some b4 ∧ (yK c b4 = 7 ∧ (((yT c b4).length : Int) ≤ x1 → CW g B O 48 22 [some (.ref r0), some (.int (iI x1))] [.ref (g (100 + 4)), .ref b2] c Q) ∧ (x1 < ((yT c b4).length : Int) → CW g B O 48 22 [some (.ref r0), some (.int (iI x1))] [.ref (g (100 + 3)), .ref b2] c Q)))) (hx1 : (-2147483648 : Int) ≤ x1 ∧ x1 ≤ 2147483647 := by omega) :
    CW g B O 48 0 [some (.ref r0), some (.int (iI x1))] [] c Q := by
  refine cq_R (fun hRc => ?_)
  refine cq_g (pc' := 1) (ls' := [some (.ref r0), some (.int (iI x1))]) (st' := [.ref r0]) dX4_beginPiece_0 (fun _ _ => rfl) ?_
  obtain ⟨hK1, b2, hP, h⟩ := h
  refine cq_getP dX4_beginPiece_1 rfl (by decide) rfl (by unfold plK; decide) hK1 hP ?_
  refine cq_g (pc' := 5) (ls' := [some (.ref r0), some (.int (iI x1))]) (st' := [.ref r0, .ref b2]) dX4_beginPiece_4 (fun _ _ => rfl) ?_
  obtain ⟨hK3, b4, hP, h⟩ := h
  refine cq_getP dX4_beginPiece_5 rfl (by decide) rfl (by unfold plK; decide) hK3 hP ?_
  obtain ⟨hK5, h⟩ := h
  refine cq_call (th := false) (rest := [.ref b2]) (ls2 := [some (.ref b4)]) (pc' := 11) dX4_beginPiece_8 (fun _ _ => ex_calV rfl (by decide)) rfl (Nat.le_of_ble_eq_true rfl) (Nat.le_of_ble_eq_true rfl) (Nat.le_of_ble_eq_true rfl) (cr_rcv rfl rfl (by decide) hK5) rfl rfl rfl (fun q => nomatch q) (t54 hK5 ?_)
  show CW g B O 48 11 [some (.ref r0), some (.int (iI x1))] [.int (iI ((yT c b4).length : Int)), .ref b2] c Q
  refine cq_g (pc' := 12) (ls' := [some (.ref r0), some (.int (iI x1))]) (st' := [.int (iI x1), .int (iI ((yT c b4).length : Int)), .ref b2]) dX4_beginPiece_11 (fun _ _ => rfl) ?_
  obtain ⟨h1, h2⟩ := h
  refine cq_icmp (t := 20) dX4_beginPiece_12 (by decide) (d_le (crT hRc hK5) hx1) (fun q => ?_) (fun q => ?_)
  · have h := h1 q
    refine cq_ldcS dX4_beginPiece_20 rfl ?_
    exact h
  · have h := h2 (Int.not_le.mp q)
    refine cq_ldcS dX4_beginPiece_15 rfl ?_
    refine cq_goto (t := 22) dX4_beginPiece_17 (by decide) ?_
    exact h
theorem c48_22 {c : CS} {Q : Rs → CS → Prop} {l0 : Option Value} {l1 : Option Value} {js0 : Nat} {w1 : Nat}
    (h : yK c w1 = 7 ∧ js0 < 10 ∧ (yT c w1).length + (tx js0).length ≤ 1024 ∧ (∀ d4, d4 = wT c w1 (yT c w1 ++ tx js0) → Q (Sum.inl none) d4))  :
    CW g B O 48 22 [l0, l1] [.ref (g (100 + js0)), .ref w1] c Q := by
  refine cq_R (fun hRc => ?_)
  obtain ⟨hK1, hj2, hl3, h⟩ := h
  refine cq_call (th := false) (rest := []) (ls2 := [some (.ref w1), some (.ref (g (100 + js0))), none]) (pc' := 25) dX4_beginPiece_22 (fun _ _ => ex_calV rfl (by decide)) rfl (Nat.le_of_ble_eq_true rfl) (Nat.le_of_ble_eq_true rfl) (Nat.le_of_ble_eq_true rfl) (cr_rcv rfl rfl (by decide) hK1) rfl rfl rfl (fun q => nomatch q) (t59 hK1 hj2 hl3 ?_)
  show CW g B O 48 25 [l0, l1] [] (wT c w1 (yT c w1 ++ tx js0)) Q
  generalize ed4 : wT c w1 (yT c w1 ++ tx js0) = d4
  replace h := h _ ed4.symm
  refine cq_R (fun hRd4 => ?_)
  exact cq_vret dX4_beginPiece_25 rfl h
theorem c49_0 {c : CS} {Q : Rs → CS → Prop} {r0 : Nat} {x1 : Int} {j2 : Nat} {x3 : Int}
    (h : yK c r0 = 6 ∧ ∃ b2, yP c r0 0 = some b2 ∧ (yK c b2 = 2 ∧ CW g B O 2 0 [some (.ref b2), some (.int (iI x1))] [] c (CK g B O 49 8 [some (.ref r0), some (.int (iI x1)), some (.ref (g (100 + j2))), some (.int (iI x3))] [] Q false))) (hx1 : (-2147483648 : Int) ≤ x1 ∧ x1 ≤ 2147483647 := by omega) (hx3 : (-2147483648 : Int) ≤ x3 ∧ x3 ≤ 2147483647 := by omega) :
    CW g B O 49 0 [some (.ref r0), some (.int (iI x1)), some (.ref (g (100 + j2))), some (.int (iI x3))] [] c Q := by
  refine cq_R (fun hRc => ?_)
  refine cq_g (pc' := 1) (ls' := [some (.ref r0), some (.int (iI x1)), some (.ref (g (100 + j2))), some (.int (iI x3))]) (st' := [.ref r0]) dX4_addValuePiece_0 (fun _ _ => rfl) ?_
  obtain ⟨hK1, b2, hP, h⟩ := h
  refine cq_getP dX4_addValuePiece_1 rfl (by decide) rfl (by unfold plK; decide) hK1 hP ?_
  refine cq_g (pc' := 5) (ls' := [some (.ref r0), some (.int (iI x1)), some (.ref (g (100 + j2))), some (.int (iI x3))]) (st' := [.int (iI x1), .ref b2]) dX4_addValuePiece_4 (fun _ _ => rfl) ?_
  obtain ⟨hK3, h⟩ := h
  exact cq_call (th := false) (rest := []) (ls2 := [some (.ref b2), some (.int (iI x1))]) (pc' := 8) dX4_addValuePiece_5 (fun _ _ => ex_calV rfl (by decide)) rfl (Nat.le_of_ble_eq_true rfl) (Nat.le_of_ble_eq_true rfl) (Nat.le_of_ble_eq_true rfl) (cr_rcv rfl rfl (by decide) hK3) rfl rfl rfl (fun q => nomatch q) h
theorem c49_8 {c : CS} {Q : Rs → CS → Prop} {r0 : Nat} {x1 : Int} {j2 : Nat} {x3 : Int} {u0 : Int}
    (h : (u0 = 0 → CW g B O 49 39 [some (.ref r0), some (.int (iI x1)), some (.ref (g (100 + j2))), some (.int (iI x3))] [] c Q) ∧ (¬ u0 = 0 → yK c r0 = 6 ∧ CW g B O 48 0 [some (.ref r0), some (.int (iI x3))] [] c (CK g B O 49 16 [some (.ref r0), some (.int (iI x1)), some (.ref (g (100 + j2))), some (.int (iI x3))] [] Q false))) (hx1 : (-2147483648 : Int) ≤ x1 ∧ x1 ≤ 2147483647 := by omega) (hx3 : (-2147483648 : Int) ≤ x3 ∧ x3 ≤ 2147483647 := by omega) (hu0 : (-2147483648 : Int) ≤ u0 ∧ u0 ≤ 2147483647 := by omega) :
    CW g B O 49 8 [some (.ref r0), some (.int (iI x1)), some (.ref (g (100 + j2))), some (.int (iI x3))] [.int (iI u0)] c Q := by
  refine cq_R (fun hRc => ?_)
  obtain ⟨h1, h2⟩ := h
  refine cq_if (t := 39) dX4_addValuePiece_8 (by decide) (d_eq hu0 (by decide)) (fun q => ?_) (fun q => ?_)
  · have h := h1 q
    exact h
  · have h := h2 q
    refine cq_g (pc' := 12) (ls' := [some (.ref r0), some (.int (iI x1)), some (.ref (g (100 + j2))), some (.int (iI x3))]) (st' := [.ref r0]) dX4_addValuePiece_11 (fun _ _ => rfl) ?_
    refine cq_g (pc' := 13) (ls' := [some (.ref r0), some (.int (iI x1)), some (.ref (g (100 + j2))), some (.int (iI x3))]) (st' := [.int (iI x3), .ref r0]) dX4_addValuePiece_12 (fun _ _ => rfl) ?_
    obtain ⟨hK1, h⟩ := h
    exact cq_call (th := false) (rest := []) (ls2 := [some (.ref r0), some (.int (iI x3))]) (pc' := 16) dX4_addValuePiece_13 (fun _ _ => ex_calV rfl (by decide)) rfl (Nat.le_of_ble_eq_true rfl) (Nat.le_of_ble_eq_true rfl) (Nat.le_of_ble_eq_true rfl) (cr_rcv rfl rfl (by decide) hK1) rfl rfl rfl (fun q => nomatch q) h
theorem c49_16 {c : CS} {Q : Rs → CS → Prop} {r0 : Nat} {x1 : Int} {j2 : Nat} {l3 : Option Value}
    (h : yK c r0 = 6 ∧ ∃ b2, yP c r0 7 = some b2 ∧ (yK c b2 = 7 ∧ j2 < 10 ∧ (yT c b2).length + (tx j2).length ≤ 1024 ∧ (∀ d6, d6 = wT c b2 (yT c b2 ++ tx j2) → yK d6 r0 = 6 ∧ ∃ b8, yP d6 r0 7 = some b8 ∧ (yK d6 r0 = 6 ∧ ∃ b10, yP d6 r0 0 = some b10 ∧ (yK d6 b10 = 2 ∧ CW g B O 3 0 [some (.ref b10), some (.int (iI x1)), none, none, none, none] [] d6 (CK g B O 49 36 [some (.ref r0), some (.int (iI x1)), some (.ref (g (100 + j2))), l3] [.ref b8] Q false)))))) (hx1 : (-2147483648 : Int) ≤ x1 ∧ x1 ≤ 2147483647 := by omega) :
    CW g B O 49 16 [some (.ref r0), some (.int (iI x1)), some (.ref (g (100 + j2))), l3] [] c Q := by
  refine cq_R (fun hRc => ?_)
  refine cq_g (pc' := 17) (ls' := [some (.ref r0), some (.int (iI x1)), some (.ref (g (100 + j2))), l3]) (st' := [.ref r0]) dX4_addValuePiece_16 (fun _ _ => rfl) ?_
  obtain ⟨hK1, b2, hP, h⟩ := h
  refine cq_getP dX4_addValuePiece_17 rfl (by decide) rfl (by unfold plK; decide) hK1 hP ?_
  refine cq_g (pc' := 21) (ls' := [some (.ref r0), some (.int (iI x1)), some (.ref (g (100 + j2))), l3]) (st' := [.ref (g (100 + j2)), .ref b2]) dX4_addValuePiece_20 (fun _ _ => rfl) ?_
  obtain ⟨hK3, hj4, hl5, h⟩ := h
  refine cq_call (th := false) (rest := []) (ls2 := [some (.ref b2), some (.ref (g (100 + j2))), none]) (pc' := 24) dX4_addValuePiece_21 (fun _ _ => ex_calV rfl (by decide)) rfl (Nat.le_of_ble_eq_true rfl) (Nat.le_of_ble_eq_true rfl) (Nat.le_of_ble_eq_true rfl) (cr_rcv rfl rfl (by decide) hK3) rfl rfl rfl (fun q => nomatch q) (t59 hK3 hj4 hl5 ?_)
  show CW g B O 49 24 [some (.ref r0), some (.int (iI x1)), some (.ref (g (100 + j2))), l3] [] (wT c b2 (yT c b2 ++ tx j2)) Q
  generalize ed6 : wT c b2 (yT c b2 ++ tx j2) = d6
  replace h := h _ ed6.symm
  refine cq_R (fun hRd6 => ?_)
  refine cq_g (pc' := 25) (ls' := [some (.ref r0), some (.int (iI x1)), some (.ref (g (100 + j2))), l3]) (st' := [.ref r0]) dX4_addValuePiece_24 (fun _ _ => rfl) ?_
  obtain ⟨hK7, b8, hP, h⟩ := h
  refine cq_getP dX4_addValuePiece_25 rfl (by decide) rfl (by unfold plK; decide) hK7 hP ?_
  refine cq_g (pc' := 29) (ls' := [some (.ref r0), some (.int (iI x1)), some (.ref (g (100 + j2))), l3]) (st' := [.ref r0, .ref b8]) dX4_addValuePiece_28 (fun _ _ => rfl) ?_
  obtain ⟨hK9, b10, hP, h⟩ := h
  refine cq_getP dX4_addValuePiece_29 rfl (by decide) rfl (by unfold plK; decide) hK9 hP ?_
  refine cq_g (pc' := 33) (ls' := [some (.ref r0), some (.int (iI x1)), some (.ref (g (100 + j2))), l3]) (st' := [.int (iI x1), .ref b10, .ref b8]) dX4_addValuePiece_32 (fun _ _ => rfl) ?_
  obtain ⟨hK11, h⟩ := h
  exact cq_call (th := false) (rest := [.ref b8]) (ls2 := [some (.ref b10), some (.int (iI x1)), none, none, none, none]) (pc' := 36) dX4_addValuePiece_33 (fun _ _ => ex_calV rfl (by decide)) rfl (Nat.le_of_ble_eq_true rfl) (Nat.le_of_ble_eq_true rfl) (Nat.le_of_ble_eq_true rfl) (cr_rcv rfl rfl (by decide) hK11) rfl rfl rfl (fun q => nomatch q) h
theorem c49_36 {c : CS} {Q : Rs → CS → Prop} {l0 : Option Value} {l1 : Option Value} {l2 : Option Value} {l3 : Option Value} {w0 : Nat} {w1 : Nat}
    (h : yK c w1 = 7 ∧ yK c w0 = 7 ∧ (yT c w1).length + (yT c w0).length ≤ 1024 ∧ (∀ d4, d4 = wT c w1 (yT c w1 ++ yT c w0) → CW g B O 49 39 [l0, l1, l2, l3] [] d4 Q))  :
    CW g B O 49 36 [l0, l1, l2, l3] [.ref w0, .ref w1] c Q := by
  refine cq_R (fun hRc => ?_)
  obtain ⟨hK1, hK2, hl3, h⟩ := h
  refine cq_call (th := false) (rest := []) (ls2 := [some (.ref w1), some (.ref w0)]) (pc' := 39) dX4_addValuePiece_36 (fun _ _ => ex_calV rfl (by decide)) rfl (Nat.le_of_ble_eq_true rfl) (Nat.le_of_ble_eq_true rfl) (Nat.le_of_ble_eq_true rfl) (cr_rcv rfl rfl (by decide) hK1) rfl rfl rfl (fun q => nomatch q) (t60 hK1 hK2 hl3 ?_)
  show CW g B O 49 39 [l0, l1, l2, l3] [] (wT c w1 (yT c w1 ++ yT c w0)) Q
  generalize ed4 : wT c w1 (yT c w1 ++ yT c w0) = d4
  replace h := h _ ed4.symm
  refine cq_R (fun hRd4 => ?_)
  exact h
theorem c49_39 {c : CS} {Q : Rs → CS → Prop} {l0 : Option Value} {l1 : Option Value} {l2 : Option Value} {l3 : Option Value}
    (h : Q (Sum.inl none) c)  :
    CW g B O 49 39 [l0, l1, l2, l3] [] c Q := by
  refine cq_R (fun hRc => ?_)
  exact cq_vret dX4_addValuePiece_39 rfl h
theorem c50_0 {c : CS} {Q : Rs → CS → Prop} {r0 : Nat} {x1 : Int}
    (h : yK c r0 = 6 ∧ ∃ b2, yP c r0 0 = some b2 ∧ (yK c b2 = 2 ∧ (¬ yI c b2 1 = 0 → yK c r0 = 6 ∧ ∃ b5, yP c r0 0 = some b5 ∧ (yK c b5 = 2 ∧ (¬ yI c b5 1 = 2 → yK c r0 = 6 ∧ ∃ b8, yP c r0 0 = some b8 ∧ (yK c b8 = 2 ∧ (¬ yI c b8 1 = 4 → CW g B O 50 77 [some (.ref r0), some (.int (iI x1))] [.int (iI 4), .ref r0] c Q) ∧ (yI c b8 1 = 4 → CW g B O 50 77 [some (.ref r0), some (.int (iI x1))] [.int (iI 7), .ref r0] c Q))) ∧ (yI c b5 1 = 2 → yK c r0 = 6 ∧ CW g B O 49 0 [some (.ref r0), some (.int (iI 6)), some (.ref (g (100 + 7))), some (.int (iI x1))] [] c (CK g B O 50 48 [some (.ref r0), some (.int (iI x1))] [] Q false)))) ∧ (yI c b2 1 = 0 → yK c r0 = 6 ∧ CW g B O 49 0 [some (.ref r0), some (.int (iI 3)), some (.ref (g (100 + 6))), some (.int (iI x1))] [] c (CK g B O 50 18 [some (.ref r0), some (.int (iI x1))] [] Q false)))) (hx1 : (-2147483648 : Int) ≤ x1 ∧ x1 ≤ 2147483647 := by omega) :
    CW g B O 50 0 [some (.ref r0), some (.int (iI x1))] [] c Q := by
  refine cq_R (fun hRc => ?_)
  refine cq_g (pc' := 1) (ls' := [some (.ref r0), some (.int (iI x1))]) (st' := [.ref r0]) dX4_addSource_0 (fun _ _ => rfl) ?_
  obtain ⟨hK1, b2, hP, h⟩ := h
  refine cq_getP dX4_addSource_1 rfl (by decide) rfl (by unfold plK; decide) hK1 hP ?_
  obtain ⟨hK3, h⟩ := h
  refine cq_getI dX4_addSource_4 rfl (by decide) rfl (by unfold plK; decide) hK3 ?_
  obtain ⟨h1, h2⟩ := h
  refine cq_if (t := 28) dX4_addSource_7 (by decide) (d_ne (hRc.1 _ _) (by decide)) (fun q => ?_) (fun q => ?_)
  · have h := h1 q
    refine cq_g (pc' := 29) (ls' := [some (.ref r0), some (.int (iI x1))]) (st' := [.ref r0]) dX4_addSource_28 (fun _ _ => rfl) ?_
    obtain ⟨hK4, b5, hP, h⟩ := h
    refine cq_getP dX4_addSource_29 rfl (by decide) rfl (by unfold plK; decide) hK4 hP ?_
    obtain ⟨hK6, h⟩ := h
    refine cq_getI dX4_addSource_32 rfl (by decide) rfl (by unfold plK; decide) hK6 ?_
    refine cq_ic dX4_addSource_35 ?_
    obtain ⟨h1, h2⟩ := h
    refine cq_icmp (t := 59) dX4_addSource_36 (by decide) (d_ne (hRc.1 _ _) (by decide)) (fun q => ?_) (fun q => ?_)
    · have h := h1 q
      refine cq_g (pc' := 60) (ls' := [some (.ref r0), some (.int (iI x1))]) (st' := [.ref r0]) dX4_addSource_59 (fun _ _ => rfl) ?_
      refine cq_g (pc' := 61) (ls' := [some (.ref r0), some (.int (iI x1))]) (st' := [.ref r0, .ref r0]) dX4_addSource_60 (fun _ _ => rfl) ?_
      obtain ⟨hK7, b8, hP, h⟩ := h
      refine cq_getP dX4_addSource_61 rfl (by decide) rfl (by unfold plK; decide) hK7 hP ?_
      obtain ⟨hK9, h⟩ := h
      refine cq_getI dX4_addSource_64 rfl (by decide) rfl (by unfold plK; decide) hK9 ?_
      refine cq_ic dX4_addSource_67 ?_
      obtain ⟨h1, h2⟩ := h
      refine cq_icmp (t := 76) dX4_addSource_68 (by decide) (d_ne (hRc.1 _ _) (by decide)) (fun q => ?_) (fun q => ?_)
      · have h := h1 q
        refine cq_ic dX4_addSource_76 ?_
        exact h
      · have h := h2 (Decidable.of_not_not q)
        refine cq_bi dX4_addSource_71 (by decide) ?_
        refine cq_goto (t := 77) dX4_addSource_73 (by decide) ?_
        exact h
    · have h := h2 (Decidable.of_not_not q)
      refine cq_g (pc' := 40) (ls' := [some (.ref r0), some (.int (iI x1))]) (st' := [.ref r0]) dX4_addSource_39 (fun _ _ => rfl) ?_
      refine cq_bi dX4_addSource_40 (by decide) ?_
      refine cq_ldcS dX4_addSource_42 rfl ?_
      refine cq_g (pc' := 45) (ls' := [some (.ref r0), some (.int (iI x1))]) (st' := [.int (iI x1), .ref (g (100 + 7)), .int (iI 6), .ref r0]) dX4_addSource_44 (fun _ _ => rfl) ?_
      obtain ⟨hK10, h⟩ := h
      exact cq_call (th := false) (rest := []) (ls2 := [some (.ref r0), some (.int (iI 6)), some (.ref (g (100 + 7))), some (.int (iI x1))]) (pc' := 48) dX4_addSource_45 (fun _ _ => ex_calV rfl (by decide)) rfl (Nat.le_of_ble_eq_true rfl) (Nat.le_of_ble_eq_true rfl) (Nat.le_of_ble_eq_true rfl) (cr_rcv rfl rfl (by decide) hK10) rfl rfl rfl (fun q => nomatch q) h
  · have h := h2 (Decidable.of_not_not q)
    refine cq_g (pc' := 11) (ls' := [some (.ref r0), some (.int (iI x1))]) (st' := [.ref r0]) dX4_addSource_10 (fun _ _ => rfl) ?_
    refine cq_ic dX4_addSource_11 ?_
    refine cq_ldcS dX4_addSource_12 rfl ?_
    refine cq_g (pc' := 15) (ls' := [some (.ref r0), some (.int (iI x1))]) (st' := [.int (iI x1), .ref (g (100 + 6)), .int (iI 3), .ref r0]) dX4_addSource_14 (fun _ _ => rfl) ?_
    obtain ⟨hK11, h⟩ := h
    exact cq_call (th := false) (rest := []) (ls2 := [some (.ref r0), some (.int (iI 3)), some (.ref (g (100 + 6))), some (.int (iI x1))]) (pc' := 18) dX4_addSource_15 (fun _ _ => ex_calV rfl (by decide)) rfl (Nat.le_of_ble_eq_true rfl) (Nat.le_of_ble_eq_true rfl) (Nat.le_of_ble_eq_true rfl) (cr_rcv rfl rfl (by decide) hK11) rfl rfl rfl (fun q => nomatch q) h
theorem c50_18 {c : CS} {Q : Rs → CS → Prop} {r0 : Nat} {l1 : Option Value}
    (h : yK c r0 = 6 ∧ CW g B O 51 0 [some (.ref r0), some (.int (iI 3)), some (.ref (g (100 + 5)))] [] c (CK g B O 50 25 [some (.ref r0), l1] [] Q false))  :
    CW g B O 50 18 [some (.ref r0), l1] [] c Q := by
  refine cq_R (fun hRc => ?_)
  refine cq_g (pc' := 19) (ls' := [some (.ref r0), l1]) (st' := [.ref r0]) dX4_addSource_18 (fun _ _ => rfl) ?_
  refine cq_ic dX4_addSource_19 ?_
  refine cq_ldcS dX4_addSource_20 rfl ?_
  obtain ⟨hK1, h⟩ := h
  exact cq_call (th := false) (rest := []) (ls2 := [some (.ref r0), some (.int (iI 3)), some (.ref (g (100 + 5)))]) (pc' := 25) dX4_addSource_22 (fun _ _ => ex_calV rfl (by decide)) rfl (Nat.le_of_ble_eq_true rfl) (Nat.le_of_ble_eq_true rfl) (Nat.le_of_ble_eq_true rfl) (cr_rcv rfl rfl (by decide) hK1) rfl rfl rfl (fun q => nomatch q) h
theorem c50_25 {c : CS} {Q : Rs → CS → Prop} {l0 : Option Value} {l1 : Option Value}
    (h : CW g B O 50 83 [l0, l1] [] c Q)  :
    CW g B O 50 25 [l0, l1] [] c Q := by
  refine cq_R (fun hRc => ?_)
  refine cq_goto (t := 83) dX4_addSource_25 (by decide) ?_
  exact h
theorem c50_48 {c : CS} {Q : Rs → CS → Prop} {r0 : Nat} {l1 : Option Value}
    (h : yK c r0 = 6 ∧ CW g B O 51 0 [some (.ref r0), some (.int (iI 6)), some (.ref (g (100 + 8)))] [] c (CK g B O 50 56 [some (.ref r0), l1] [] Q false))  :
    CW g B O 50 48 [some (.ref r0), l1] [] c Q := by
  refine cq_R (fun hRc => ?_)
  refine cq_g (pc' := 49) (ls' := [some (.ref r0), l1]) (st' := [.ref r0]) dX4_addSource_48 (fun _ _ => rfl) ?_
  refine cq_bi dX4_addSource_49 (by decide) ?_
  refine cq_ldcS dX4_addSource_51 rfl ?_
  obtain ⟨hK1, h⟩ := h
  exact cq_call (th := false) (rest := []) (ls2 := [some (.ref r0), some (.int (iI 6)), some (.ref (g (100 + 8)))]) (pc' := 56) dX4_addSource_53 (fun _ _ => ex_calV rfl (by decide)) rfl (Nat.le_of_ble_eq_true rfl) (Nat.le_of_ble_eq_true rfl) (Nat.le_of_ble_eq_true rfl) (cr_rcv rfl rfl (by decide) hK1) rfl rfl rfl (fun q => nomatch q) h
theorem c50_56 {c : CS} {Q : Rs → CS → Prop} {l0 : Option Value} {l1 : Option Value}
    (h : CW g B O 50 83 [l0, l1] [] c Q)  :
    CW g B O 50 56 [l0, l1] [] c Q := by
  refine cq_R (fun hRc => ?_)
  refine cq_goto (t := 83) dX4_addSource_56 (by decide) ?_
  exact h
theorem c50_77 {c : CS} {Q : Rs → CS → Prop} {l0 : Option Value} {x1 : Int} {u0 : Int} {w1 : Nat}
    (h : yK c w1 = 6 ∧ CW g B O 49 0 [some (.ref w1), some (.int (iI u0)), some (.ref (g (100 + 6))), some (.int (iI x1))] [] c (CK g B O 50 83 [l0, some (.int (iI x1))] [] Q false)) (hx1 : (-2147483648 : Int) ≤ x1 ∧ x1 ≤ 2147483647 := by omega) (hu0 : (-2147483648 : Int) ≤ u0 ∧ u0 ≤ 2147483647 := by omega) :
    CW g B O 50 77 [l0, some (.int (iI x1))] [.int (iI u0), .ref w1] c Q := by
  refine cq_R (fun hRc => ?_)
  refine cq_ldcS dX4_addSource_77 rfl ?_
  refine cq_g (pc' := 80) (ls' := [l0, some (.int (iI x1))]) (st' := [.int (iI x1), .ref (g (100 + 6)), .int (iI u0), .ref w1]) dX4_addSource_79 (fun _ _ => rfl) ?_
  obtain ⟨hK1, h⟩ := h
  exact cq_call (th := false) (rest := []) (ls2 := [some (.ref w1), some (.int (iI u0)), some (.ref (g (100 + 6))), some (.int (iI x1))]) (pc' := 83) dX4_addSource_80 (fun _ _ => ex_calV rfl (by decide)) rfl (Nat.le_of_ble_eq_true rfl) (Nat.le_of_ble_eq_true rfl) (Nat.le_of_ble_eq_true rfl) (cr_rcv rfl rfl (by decide) hK1) rfl rfl rfl (fun q => nomatch q) h
theorem c50_83 {c : CS} {Q : Rs → CS → Prop} {l0 : Option Value} {l1 : Option Value}
    (h : Q (Sum.inl none) c)  :
    CW g B O 50 83 [l0, l1] [] c Q := by
  refine cq_R (fun hRc => ?_)
  exact cq_vret dX4_addSource_83 rfl h
theorem c51_0 {c : CS} {Q : Rs → CS → Prop} {r0 : Nat} {x1 : Int} {j2 : Nat}
    (h : yK c r0 = 6 ∧ ∃ b2, yP c r0 0 = some b2 ∧ (yK c b2 = 2 ∧ CW g B O 2 0 [some (.ref b2), some (.int (iI x1))] [] c (CK g B O 51 8 [some (.ref r0), some (.int (iI x1)), some (.ref (g (100 + j2)))] [] Q false))) (hx1 : (-2147483648 : Int) ≤ x1 ∧ x1 ≤ 2147483647 := by omega) :
    CW g B O 51 0 [some (.ref r0), some (.int (iI x1)), some (.ref (g (100 + j2)))] [] c Q := by
  refine cq_R (fun hRc => ?_)
  refine cq_g (pc' := 1) (ls' := [some (.ref r0), some (.int (iI x1)), some (.ref (g (100 + j2)))]) (st' := [.ref r0]) dX4_addPages_0 (fun _ _ => rfl) ?_
  obtain ⟨hK1, b2, hP, h⟩ := h
  refine cq_getP dX4_addPages_1 rfl (by decide) rfl (by unfold plK; decide) hK1 hP ?_
  refine cq_g (pc' := 5) (ls' := [some (.ref r0), some (.int (iI x1)), some (.ref (g (100 + j2)))]) (st' := [.int (iI x1), .ref b2]) dX4_addPages_4 (fun _ _ => rfl) ?_
  obtain ⟨hK3, h⟩ := h
  exact cq_call (th := false) (rest := []) (ls2 := [some (.ref b2), some (.int (iI x1))]) (pc' := 8) dX4_addPages_5 (fun _ _ => ex_calV rfl (by decide)) rfl (Nat.le_of_ble_eq_true rfl) (Nat.le_of_ble_eq_true rfl) (Nat.le_of_ble_eq_true rfl) (cr_rcv rfl rfl (by decide) hK3) rfl rfl rfl (fun q => nomatch q) h
theorem c51_8 {c : CS} {Q : Rs → CS → Prop} {r0 : Nat} {l1 : Option Value} {j2 : Nat} {u0 : Int}
    (h : (u0 = 0 → CW g B O 51 45 [some (.ref r0), l1, some (.ref (g (100 + j2)))] [] c Q) ∧ (¬ u0 = 0 → yK c r0 = 6 ∧ ∃ b2, yP c r0 0 = some b2 ∧ (yK c b2 = 2 ∧ CW g B O 2 0 [some (.ref b2), some (.int (iI 5))] [] c (CK g B O 51 19 [some (.ref r0), l1, some (.ref (g (100 + j2)))] [] Q false)))) (hu0 : (-2147483648 : Int) ≤ u0 ∧ u0 ≤ 2147483647 := by omega) :
    CW g B O 51 8 [some (.ref r0), l1, some (.ref (g (100 + j2)))] [.int (iI u0)] c Q := by
  refine cq_R (fun hRc => ?_)
  obtain ⟨h1, h2⟩ := h
  refine cq_if (t := 45) dX4_addPages_8 (by decide) (d_eq hu0 (by decide)) (fun q => ?_) (fun q => ?_)
  · have h := h1 q
    exact h
  · have h := h2 q
    refine cq_g (pc' := 12) (ls' := [some (.ref r0), l1, some (.ref (g (100 + j2)))]) (st' := [.ref r0]) dX4_addPages_11 (fun _ _ => rfl) ?_
    obtain ⟨hK1, b2, hP, h⟩ := h
    refine cq_getP dX4_addPages_12 rfl (by decide) rfl (by unfold plK; decide) hK1 hP ?_
    refine cq_ic dX4_addPages_15 ?_
    obtain ⟨hK3, h⟩ := h
    exact cq_call (th := false) (rest := []) (ls2 := [some (.ref b2), some (.int (iI 5))]) (pc' := 19) dX4_addPages_16 (fun _ _ => ex_calV rfl (by decide)) rfl (Nat.le_of_ble_eq_true rfl) (Nat.le_of_ble_eq_true rfl) (Nat.le_of_ble_eq_true rfl) (cr_rcv rfl rfl (by decide) hK3) rfl rfl rfl (fun q => nomatch q) h
theorem c51_19 {c : CS} {Q : Rs → CS → Prop} {r0 : Nat} {l1 : Option Value} {j2 : Nat} {u0 : Int}
    (h : (u0 = 0 → CW g B O 51 45 [some (.ref r0), l1, some (.ref (g (100 + j2)))] [] c Q) ∧ (¬ u0 = 0 → yK c r0 = 6 ∧ ∃ b2, yP c r0 7 = some b2 ∧ (yK c b2 = 7 ∧ j2 < 10 ∧ (yT c b2).length + (tx j2).length ≤ 1024 ∧ (∀ d6, d6 = wT c b2 (yT c b2 ++ tx j2) → yK d6 r0 = 6 ∧ ∃ b8, yP d6 r0 7 = some b8 ∧ (yK d6 r0 = 6 ∧ ∃ b10, yP d6 r0 0 = some b10 ∧ (yK d6 b10 = 2 ∧ CW g B O 3 0 [some (.ref b10), some (.int (iI 5)), none, none, none, none] [] d6 (CK g B O 51 42 [some (.ref r0), l1, some (.ref (g (100 + j2)))] [.ref b8] Q false))))))) (hu0 : (-2147483648 : Int) ≤ u0 ∧ u0 ≤ 2147483647 := by omega) :
    CW g B O 51 19 [some (.ref r0), l1, some (.ref (g (100 + j2)))] [.int (iI u0)] c Q := by
  refine cq_R (fun hRc => ?_)
  obtain ⟨h1, h2⟩ := h
  refine cq_if (t := 45) dX4_addPages_19 (by decide) (d_eq hu0 (by decide)) (fun q => ?_) (fun q => ?_)
  · have h := h1 q
    exact h
  · have h := h2 q
    refine cq_g (pc' := 23) (ls' := [some (.ref r0), l1, some (.ref (g (100 + j2)))]) (st' := [.ref r0]) dX4_addPages_22 (fun _ _ => rfl) ?_
    obtain ⟨hK1, b2, hP, h⟩ := h
    refine cq_getP dX4_addPages_23 rfl (by decide) rfl (by unfold plK; decide) hK1 hP ?_
    refine cq_g (pc' := 27) (ls' := [some (.ref r0), l1, some (.ref (g (100 + j2)))]) (st' := [.ref (g (100 + j2)), .ref b2]) dX4_addPages_26 (fun _ _ => rfl) ?_
    obtain ⟨hK3, hj4, hl5, h⟩ := h
    refine cq_call (th := false) (rest := []) (ls2 := [some (.ref b2), some (.ref (g (100 + j2))), none]) (pc' := 30) dX4_addPages_27 (fun _ _ => ex_calV rfl (by decide)) rfl (Nat.le_of_ble_eq_true rfl) (Nat.le_of_ble_eq_true rfl) (Nat.le_of_ble_eq_true rfl) (cr_rcv rfl rfl (by decide) hK3) rfl rfl rfl (fun q => nomatch q) (t59 hK3 hj4 hl5 ?_)
    show CW g B O 51 30 [some (.ref r0), l1, some (.ref (g (100 + j2)))] [] (wT c b2 (yT c b2 ++ tx j2)) Q
    generalize ed6 : wT c b2 (yT c b2 ++ tx j2) = d6
    replace h := h _ ed6.symm
    refine cq_R (fun hRd6 => ?_)
    refine cq_g (pc' := 31) (ls' := [some (.ref r0), l1, some (.ref (g (100 + j2)))]) (st' := [.ref r0]) dX4_addPages_30 (fun _ _ => rfl) ?_
    obtain ⟨hK7, b8, hP, h⟩ := h
    refine cq_getP dX4_addPages_31 rfl (by decide) rfl (by unfold plK; decide) hK7 hP ?_
    refine cq_g (pc' := 35) (ls' := [some (.ref r0), l1, some (.ref (g (100 + j2)))]) (st' := [.ref r0, .ref b8]) dX4_addPages_34 (fun _ _ => rfl) ?_
    obtain ⟨hK9, b10, hP, h⟩ := h
    refine cq_getP dX4_addPages_35 rfl (by decide) rfl (by unfold plK; decide) hK9 hP ?_
    refine cq_ic dX4_addPages_38 ?_
    obtain ⟨hK11, h⟩ := h
    exact cq_call (th := false) (rest := [.ref b8]) (ls2 := [some (.ref b10), some (.int (iI 5)), none, none, none, none]) (pc' := 42) dX4_addPages_39 (fun _ _ => ex_calV rfl (by decide)) rfl (Nat.le_of_ble_eq_true rfl) (Nat.le_of_ble_eq_true rfl) (Nat.le_of_ble_eq_true rfl) (cr_rcv rfl rfl (by decide) hK11) rfl rfl rfl (fun q => nomatch q) h
theorem c51_42 {c : CS} {Q : Rs → CS → Prop} {l0 : Option Value} {l1 : Option Value} {l2 : Option Value} {w0 : Nat} {w1 : Nat}
    (h : yK c w1 = 7 ∧ yK c w0 = 7 ∧ (yT c w1).length + (yT c w0).length ≤ 1024 ∧ (∀ d4, d4 = wT c w1 (yT c w1 ++ yT c w0) → CW g B O 51 45 [l0, l1, l2] [] d4 Q))  :
    CW g B O 51 42 [l0, l1, l2] [.ref w0, .ref w1] c Q := by
  refine cq_R (fun hRc => ?_)
  obtain ⟨hK1, hK2, hl3, h⟩ := h
  refine cq_call (th := false) (rest := []) (ls2 := [some (.ref w1), some (.ref w0)]) (pc' := 45) dX4_addPages_42 (fun _ _ => ex_calV rfl (by decide)) rfl (Nat.le_of_ble_eq_true rfl) (Nat.le_of_ble_eq_true rfl) (Nat.le_of_ble_eq_true rfl) (cr_rcv rfl rfl (by decide) hK1) rfl rfl rfl (fun q => nomatch q) (t60 hK1 hK2 hl3 ?_)
  show CW g B O 51 45 [l0, l1, l2] [] (wT c w1 (yT c w1 ++ yT c w0)) Q
  generalize ed4 : wT c w1 (yT c w1 ++ yT c w0) = d4
  replace h := h _ ed4.symm
  refine cq_R (fun hRd4 => ?_)
  exact h
theorem c51_45 {c : CS} {Q : Rs → CS → Prop} {l0 : Option Value} {l1 : Option Value} {l2 : Option Value}
    (h : Q (Sum.inl none) c)  :
    CW g B O 51 45 [l0, l1, l2] [] c Q := by
  refine cq_R (fun hRc => ?_)
  exact cq_vret dX4_addPages_45 rfl h
theorem c5_0 {c : CS} {Q : Rs → CS → Prop} {r0 : Nat}
    (h : yU c + 15400 ≤ B ∧ (∀ b1, yK c b1 = 0 → ∀ d2, d2 = wN c b1 1 0 15400 → yK d2 r0 = 3 ∧ (∀ d4, d4 = wP d2 r0 0 (some b1) → yK d4 r0 = 3 ∧ (∀ d6, d6 = wI d4 r0 1 0 → yK d6 r0 = 3 ∧ (∀ d8, d8 = wI d6 r0 2 0 → yU d8 + 104 ≤ B ∧ (∀ b10, yK d8 b10 = 0 → ∀ d11, d11 = wN d8 b10 101 96 104 → yK d11 r0 = 3 ∧ (∀ d13, d13 = wP d11 r0 3 (some b10) → yU d13 + 104 ≤ B ∧ (∀ b15, yK d13 b15 = 0 → ∀ d16, d16 = wN d13 b15 101 96 104 → yK d16 r0 = 3 ∧ (∀ d18, d18 = wP d16 r0 4 (some b15) → yK d18 r0 = 3 ∧ (∀ d20, d20 = wI d18 r0 5 0 → Q (Sum.inl none) d20))))))))))  :
    CW g B O 5 0 [some (.ref r0)] [] c Q := by
  refine cq_R (fun hRc => ?_)
  refine cq_g (pc' := 1) (ls' := [some (.ref r0)]) (st' := [.ref r0]) dX1_init_0 (fun _ _ => rfl) ?_
  refine cq_oi dX1_init_1 rfl ⟨Nat.le_of_ble_eq_true rfl, Nat.le_of_ble_eq_true rfl, Nat.le_of_ble_eq_true rfl⟩ ?_
  refine cq_g (pc' := 5) (ls' := [some (.ref r0)]) (st' := [.ref r0]) dX1_init_4 (fun _ _ => rfl) ?_
  obtain ⟨hU3, h⟩ := h
  refine cq_newL dX1_init_5 rfl dX1_init_8 dX1_init_9 rfl rfl (Nat.le_of_ble_eq_true rfl) hU3 (fun b1 hbb1 => ?_)
  replace h := h b1 hbb1
  generalize ed2 : wN c b1 1 0 15400 = d2
  replace h := h _ ed2.symm
  refine cq_R (fun hRd2 => ?_)
  obtain ⟨hK5, h⟩ := h
  refine cq_putP dX1_init_12 rfl (by decide) (Or.inr ⟨rfl, rfl⟩) rfl (by unfold plK; decide) hK5 ?_
  generalize ed4 : wP d2 r0 0 (some b1) = d4
  replace h := h _ ed4.symm
  refine cq_R (fun hRd4 => ?_)
  refine cq_g (pc' := 16) (ls' := [some (.ref r0)]) (st' := [.ref r0]) dX1_init_15 (fun _ _ => rfl) ?_
  refine cq_ic dX1_init_16 ?_
  obtain ⟨hK7, h⟩ := h
  refine cq_putI dX1_init_17 rfl (by decide) (Or.inl rfl) rfl (by unfold plK; decide) (Or.inl rfl) (by decide) hK7 ?_
  generalize ed6 : wI d4 r0 1 0 = d6
  replace h := h _ ed6.symm
  refine cq_R (fun hRd6 => ?_)
  refine cq_g (pc' := 21) (ls' := [some (.ref r0)]) (st' := [.ref r0]) dX1_init_20 (fun _ _ => rfl) ?_
  refine cq_ic dX1_init_21 ?_
  obtain ⟨hK9, h⟩ := h
  refine cq_putI dX1_init_22 rfl (by decide) (Or.inl rfl) rfl (by unfold plK; decide) (Or.inr (Or.inl rfl)) (by decide) hK9 ?_
  generalize ed8 : wI d6 r0 2 0 = d8
  replace h := h _ ed8.symm
  refine cq_R (fun hRd8 => ?_)
  refine cq_g (pc' := 26) (ls' := [some (.ref r0)]) (st' := [.ref r0]) dX1_init_25 (fun _ _ => rfl) ?_
  refine cq_bi dX1_init_26 (by decide) ?_
  obtain ⟨hU12, h⟩ := h
  refine cq_newI dX1_init_28 (by decide) hU12 (fun b10 hbb10 => ?_)
  replace h := h b10 hbb10
  show CW g B O 5 30 [some (.ref r0)] [.ref b10, .ref r0] (wN d8 b10 101 96 104) Q
  generalize ed11 : wN d8 b10 101 96 104 = d11
  replace h := h _ ed11.symm
  refine cq_R (fun hRd11 => ?_)
  obtain ⟨hK14, h⟩ := h
  refine cq_putP dX1_init_30 rfl (by decide) (Or.inr ⟨rfl, rfl⟩) rfl (by unfold plK; decide) hK14 ?_
  generalize ed13 : wP d11 r0 3 (some b10) = d13
  replace h := h _ ed13.symm
  refine cq_R (fun hRd13 => ?_)
  refine cq_g (pc' := 34) (ls' := [some (.ref r0)]) (st' := [.ref r0]) dX1_init_33 (fun _ _ => rfl) ?_
  refine cq_bi dX1_init_34 (by decide) ?_
  obtain ⟨hU17, h⟩ := h
  refine cq_newI dX1_init_36 (by decide) hU17 (fun b15 hbb15 => ?_)
  replace h := h b15 hbb15
  show CW g B O 5 38 [some (.ref r0)] [.ref b15, .ref r0] (wN d13 b15 101 96 104) Q
  generalize ed16 : wN d13 b15 101 96 104 = d16
  replace h := h _ ed16.symm
  refine cq_R (fun hRd16 => ?_)
  obtain ⟨hK19, h⟩ := h
  refine cq_putP dX1_init_38 rfl (by decide) (Or.inr ⟨rfl, rfl⟩) rfl (by unfold plK; decide) hK19 ?_
  generalize ed18 : wP d16 r0 4 (some b15) = d18
  replace h := h _ ed18.symm
  refine cq_R (fun hRd18 => ?_)
  refine cq_g (pc' := 42) (ls' := [some (.ref r0)]) (st' := [.ref r0]) dX1_init_41 (fun _ _ => rfl) ?_
  refine cq_ic dX1_init_42 ?_
  obtain ⟨hK21, h⟩ := h
  refine cq_putI dX1_init_43 rfl (by decide) (Or.inl rfl) rfl (by unfold plK; decide) (Or.inl rfl) (by decide) hK21 ?_
  generalize ed20 : wI d18 r0 5 0 = d20
  replace h := h _ ed20.symm
  refine cq_R (fun hRd20 => ?_)
  exact cq_vret dX1_init_46 rfl h
theorem c6_0 {c : CS} {Q : Rs → CS → Prop} {r0 : Nat}
    (h : yK c r0 = 3 ∧ Q (Sum.inl (some (.int (iI (yI c r0 1))))) c)  :
    CW g B O 6 0 [some (.ref r0)] [] c Q := by
  refine cq_R (fun hRc => ?_)
  refine cq_g (pc' := 1) (ls' := [some (.ref r0)]) (st' := [.ref r0]) dX1_size_0 (fun _ _ => rfl) ?_
  obtain ⟨hK1, h⟩ := h
  refine cq_getI dX1_size_1 rfl (by decide) rfl (by unfold plK; decide) hK1 ?_
  exact cq_ret dX1_size_4 rfl h
theorem c7_0 {c : CS} {Q : Rs → CS → Prop} {r0 : Nat} {x1 : Int}
    (h : yK c r0 = 3 ∧ ∃ b2, yP c r0 0 = some b2 ∧ (yK c b2 = 1 ∧ ((0 : Int) ≤ x1 ∧ x1 < (yE c b2).length) ∧ ∃ b5, (yE c b2).getD (x1).toNat 0 = b5 ∧ (yK c b5 = 6 ∧ Q (Sum.inl (some (.ref b5))) c))) (hx1 : (-2147483648 : Int) ≤ x1 ∧ x1 ≤ 2147483647 := by omega) :
    CW g B O 7 0 [some (.ref r0), some (.int (iI x1))] [] c Q := by
  refine cq_R (fun hRc => ?_)
  refine cq_g (pc' := 1) (ls' := [some (.ref r0), some (.int (iI x1))]) (st' := [.ref r0]) dX1_get_0 (fun _ _ => rfl) ?_
  obtain ⟨hK1, b2, hP, h⟩ := h
  refine cq_getP dX1_get_1 rfl (by decide) rfl (by unfold plK; decide) hK1 hP ?_
  refine cq_g (pc' := 5) (ls' := [some (.ref r0), some (.int (iI x1))]) (st' := [.int (iI x1), .ref b2]) dX1_get_4 (fun _ _ => rfl) ?_
  obtain ⟨hK3, hx4, b5, hb6, h⟩ := h
  refine cq_call (th := false) (rest := []) (ls2 := [some (.ref b2), some (.int (iI x1))]) (pc' := 8) dX1_get_5 (fun _ _ => ex_calV rfl (by decide)) rfl (Nat.le_of_ble_eq_true rfl) (Nat.le_of_ble_eq_true rfl) (Nat.le_of_ble_eq_true rfl) (cr_rcv rfl rfl (by decide) hK3) rfl rfl rfl (fun q => nomatch q) (t163 (x := x1) hK3 hx4 ?_)
  rw [hb6]
  show CW g B O 7 8 [some (.ref r0), some (.int (iI x1))] [.ref b5] c Q
  obtain ⟨hK7, h⟩ := h
  refine cq_chk dX1_get_8 rfl (by decide) hK7 ?_
  exact cq_aret dX1_get_11 rfl h
theorem c8_0 {c : CS} {Q : Rs → CS → Prop} {r0 : Nat}
    (h : yK c r0 = 3 ∧ (∀ d1, d1 = wI c r0 2 1 → yK d1 r0 = 3 ∧ (∀ d3, d3 = wI d1 r0 1 0 → Q (Sum.inl none) d3)))  :
    CW g B O 8 0 [some (.ref r0)] [] c Q := by
  refine cq_R (fun hRc => ?_)
  refine cq_g (pc' := 1) (ls' := [some (.ref r0)]) (st' := [.ref r0]) dX1_begin_0 (fun _ _ => rfl) ?_
  refine cq_ic dX1_begin_1 ?_
  obtain ⟨hK2, h⟩ := h
  refine cq_putI dX1_begin_2 rfl (by decide) (Or.inl rfl) rfl (by unfold plK; decide) (Or.inr (Or.inr rfl)) (by decide) hK2 ?_
  generalize ed1 : wI c r0 2 1 = d1
  replace h := h _ ed1.symm
  refine cq_R (fun hRd1 => ?_)
  refine cq_g (pc' := 6) (ls' := [some (.ref r0)]) (st' := [.ref r0]) dX1_begin_5 (fun _ _ => rfl) ?_
  refine cq_ic dX1_begin_6 ?_
  obtain ⟨hK4, h⟩ := h
  refine cq_putI dX1_begin_7 rfl (by decide) (Or.inl rfl) rfl (by unfold plK; decide) (Or.inl rfl) (by decide) hK4 ?_
  generalize ed3 : wI d1 r0 1 0 = d3
  replace h := h _ ed3.symm
  refine cq_R (fun hRd3 => ?_)
  exact cq_vret dX1_begin_10 rfl h
theorem c9_0 {c : CS} {Q : Rs → CS → Prop} {r0 : Nat} {r1 : Nat} {l2 : Option Value}
    (h : CW g B O 9 2 [some (.ref r0), some (.ref r1), some (.int (iI 0))] [] c Q)  :
    CW g B O 9 0 [some (.ref r0), some (.ref r1), l2] [] c Q := by
  refine cq_R (fun hRc => ?_)
  refine cq_ic dX1_list_0 ?_
  refine cq_g (pc' := 2) (ls' := [some (.ref r0), some (.ref r1), some (.int (iI 0))]) (st' := []) dX1_list_1 (fun _ _ => rfl) ?_
  exact h
theorem c9_2 {c : CS} {Q : Rs → CS → Prop} {r0 : Nat} {r1 : Nat} {x2 : Int}
    (h : yK c r0 = 3 ∧ (yI c r0 1 ≤ x2 → yK c r0 = 3 ∧ yK c r0 = 3 ∧ ∃ b4, yP c r0 0 = some b4 ∧ (yK c b4 = 1 ∧ (yI c r0 1 < ((yE c b4).length : Int) → CW g B O 9 65 [some (.ref r0), some (.ref r1), some (.int (iI x2))] [] c Q) ∧ (((yE c b4).length : Int) ≤ yI c r0 1 → yK c r0 = 3 ∧ ∃ b7, yP c r0 0 = some b7 ∧ (yU c + 16 ≤ B ∧ (∀ b8, yK c b8 = 0 → ∀ d9, d9 = wN c b8 6 0 16 → CW g B O 38 0 [some (.ref b8), some (.ref r1)] [] d9 (CK g B O 9 61 [some (.ref r0), some (.ref r1), some (.int (iI x2))] [.ref b8, .ref b7] Q false)))))) ∧ (x2 < yI c r0 1 → yK c r0 = 3 ∧ ∃ b13, yP c r0 0 = some b13 ∧ (yK c b13 = 1 ∧ ((0 : Int) ≤ x2 ∧ x2 < (yE c b13).length) ∧ ∃ b16, (yE c b13).getD (x2).toNat 0 = b16 ∧ (yK c b16 = 6 ∧ yK c b16 = 6 ∧ ∃ b20, yP c b16 0 = some b20 ∧ ((¬ b20 = r1 → ((-2147483648 : Int) ≤ x2 + 1 ∧ x2 + 1 ≤ 2147483647) ∧ CW g B O 9 2 [some (.ref r0), some (.ref r1), some (.int (iI (x2 + 1)))] [] c Q) ∧ (b20 = r1 → Q (Sum.inl none) c)))))) (hx2 : (-2147483648 : Int) ≤ x2 ∧ x2 ≤ 2147483647 := by omega) :
    CW g B O 9 2 [some (.ref r0), some (.ref r1), some (.int (iI x2))] [] c Q := by
  refine cq_R (fun hRc => ?_)
  refine cq_g (pc' := 3) (ls' := [some (.ref r0), some (.ref r1), some (.int (iI x2))]) (st' := [.int (iI x2)]) dX1_list_2 (fun _ _ => rfl) ?_
  refine cq_g (pc' := 4) (ls' := [some (.ref r0), some (.ref r1), some (.int (iI x2))]) (st' := [.ref r0, .int (iI x2)]) dX1_list_3 (fun _ _ => rfl) ?_
  obtain ⟨hK1, h⟩ := h
  refine cq_getI dX1_list_4 rfl (by decide) rfl (by unfold plK; decide) hK1 ?_
  obtain ⟨h1, h2⟩ := h
  refine cq_icmp (t := 35) dX1_list_7 (by decide) (d_ge hx2 (hRc.1 _ _)) (fun q => ?_) (fun q => ?_)
  · have h := h1 q
    refine cq_g (pc' := 36) (ls' := [some (.ref r0), some (.ref r1), some (.int (iI x2))]) (st' := [.ref r0]) dX1_list_35 (fun _ _ => rfl) ?_
    obtain ⟨hK2, h⟩ := h
    refine cq_getI dX1_list_36 rfl (by decide) rfl (by unfold plK; decide) hK2 ?_
    refine cq_g (pc' := 40) (ls' := [some (.ref r0), some (.ref r1), some (.int (iI x2))]) (st' := [.ref r0, .int (iI (yI c r0 1))]) dX1_list_39 (fun _ _ => rfl) ?_
    obtain ⟨hK3, b4, hP, h⟩ := h
    refine cq_getP dX1_list_40 rfl (by decide) rfl (by unfold plK; decide) hK3 hP ?_
    obtain ⟨hK5, h⟩ := h
    refine cq_call (th := false) (rest := [.int (iI (yI c r0 1))]) (ls2 := [some (.ref b4)]) (pc' := 46) dX1_list_43 (fun _ _ => ex_calV rfl (by decide)) rfl (Nat.le_of_ble_eq_true rfl) (Nat.le_of_ble_eq_true rfl) (Nat.le_of_ble_eq_true rfl) (cr_rcv rfl rfl (by decide) hK5) rfl rfl rfl (fun q => nomatch q) (t161 hK5 ?_)
    show CW g B O 9 46 [some (.ref r0), some (.ref r1), some (.int (iI x2))] [.int (iI ((yE c b4).length : Int)), .int (iI (yI c r0 1))] c Q
    obtain ⟨h1, h2⟩ := h
    refine cq_icmp (t := 65) dX1_list_46 (by decide) (d_lt (hRc.1 _ _) (crE hRc hK5)) (fun q => ?_) (fun q => ?_)
    · have h := h1 q
      exact h
    · have h := h2 (Int.not_lt.mp q)
      refine cq_g (pc' := 50) (ls' := [some (.ref r0), some (.ref r1), some (.int (iI x2))]) (st' := [.ref r0]) dX1_list_49 (fun _ _ => rfl) ?_
      obtain ⟨hK6, b7, hP, h⟩ := h
      refine cq_getP dX1_list_50 rfl (by decide) rfl (by unfold plK; decide) hK6 hP ?_
      obtain ⟨hU10, h⟩ := h
      refine cq_new (N := 8) dX1_list_53 rfl (by decide) rfl (by unfold plK; decide) hU10 (fun b8 hbb8 => ?_)
      replace h := h b8 hbb8
      show CW g B O 9 56 [some (.ref r0), some (.ref r1), some (.int (iI x2))] [.ref b8, .ref b7] (wN c b8 6 0 16) Q
      generalize ed9 : wN c b8 6 0 16 = d9
      replace h := h _ ed9.symm
      refine cq_R (fun hRd9 => ?_)
      refine cq_g (pc' := 57) (ls' := [some (.ref r0), some (.ref r1), some (.int (iI x2))]) (st' := [.ref b8, .ref b8, .ref b7]) dX1_list_56 (fun _ _ => rfl) ?_
      refine cq_g (pc' := 58) (ls' := [some (.ref r0), some (.ref r1), some (.int (iI x2))]) (st' := [.ref r1, .ref b8, .ref b8, .ref b7]) dX1_list_57 (fun _ _ => rfl) ?_
      exact cq_call (th := false) (rest := [.ref b8, .ref b7]) (ls2 := [some (.ref b8), some (.ref r1)]) (pc' := 61) dX1_list_58 (fun _ _ => ex_calI rfl (by decide)) rfl (Nat.le_of_ble_eq_true rfl) (Nat.le_of_ble_eq_true rfl) (Nat.le_of_ble_eq_true rfl) (fun _ _ => rfl) rfl rfl rfl (fun q => nomatch q) h
  · have h := h2 (Int.not_le.mp q)
    refine cq_g (pc' := 11) (ls' := [some (.ref r0), some (.ref r1), some (.int (iI x2))]) (st' := [.ref r0]) dX1_list_10 (fun _ _ => rfl) ?_
    obtain ⟨hK12, b13, hP, h⟩ := h
    refine cq_getP dX1_list_11 rfl (by decide) rfl (by unfold plK; decide) hK12 hP ?_
    refine cq_g (pc' := 15) (ls' := [some (.ref r0), some (.ref r1), some (.int (iI x2))]) (st' := [.int (iI x2), .ref b13]) dX1_list_14 (fun _ _ => rfl) ?_
    obtain ⟨hK14, hx15, b16, hb17, h⟩ := h
    refine cq_call (th := false) (rest := []) (ls2 := [some (.ref b13), some (.int (iI x2))]) (pc' := 18) dX1_list_15 (fun _ _ => ex_calV rfl (by decide)) rfl (Nat.le_of_ble_eq_true rfl) (Nat.le_of_ble_eq_true rfl) (Nat.le_of_ble_eq_true rfl) (cr_rcv rfl rfl (by decide) hK14) rfl rfl rfl (fun q => nomatch q) (t163 (x := x2) hK14 hx15 ?_)
    rw [hb17]
    show CW g B O 9 18 [some (.ref r0), some (.ref r1), some (.int (iI x2))] [.ref b16] c Q
    obtain ⟨hK18, h⟩ := h
    refine cq_chk dX1_list_18 rfl (by decide) hK18 ?_
    obtain ⟨hK19, b20, hP, h⟩ := h
    refine cq_getP dX1_list_21 rfl (by decide) rfl (by unfold plK; decide) hK19 hP ?_
    refine cq_g (pc' := 25) (ls' := [some (.ref r0), some (.ref r1), some (.int (iI x2))]) (st' := [.ref r1, .ref b20]) dX1_list_24 (fun _ _ => rfl) ?_
    obtain ⟨h1, h2⟩ := h
    refine cq_ane (t := 29) dX1_list_25 (by decide) (fun q => ?_) (fun q => ?_)
    · have h := h1 q
      obtain ⟨hr21, h⟩ := h
      refine cq_inc (ls' := [some (.ref r0), some (.ref r1), some (.int (iI (x2 + 1)))]) dX1_list_29 rfl (Nat.le_of_ble_eq_true rfl) rfl ?_
      refine cq_goto (t := 2) dX1_list_32 (by decide) ?_
      exact h
    · have h := h2 q
      exact cq_vret dX1_list_28 rfl h
theorem c9_61 {c : CS} {Q : Rs → CS → Prop} {r0 : Nat} {r1 : Nat} {l2 : Option Value} {w0 : Nat} {w1 : Nat}
    (h : yK c w1 = 1 ∧ (1 ≤ yK c w0 ∧ yK c w0 ≤ 9) ∧ (yE c w1).length < 64 ∧ (∀ d4, d4 = wU (wE c w1 ((yE c w1) ++ [w0])) (yU c - 100) → CW g B O 9 65 [some (.ref r0), some (.ref r1), l2] [] d4 Q))  :
    CW g B O 9 61 [some (.ref r0), some (.ref r1), l2] [.ref w0, .ref w1] c Q := by
  refine cq_R (fun hRc => ?_)
  obtain ⟨hK1, hr2, hl3, h⟩ := h
  refine cq_call (th := false) (rest := []) (ls2 := [some (.ref w1), some (.ref w0)]) (pc' := 64) dX1_list_61 (fun _ _ => ex_calV rfl (by decide)) rfl (Nat.le_of_ble_eq_true rfl) (Nat.le_of_ble_eq_true rfl) (Nat.le_of_ble_eq_true rfl) (cr_rcv rfl rfl (by decide) hK1) rfl rfl rfl (fun q => nomatch q) (t166 hK1 hr2 hl3 ?_)
  show CW g B O 9 64 [some (.ref r0), some (.ref r1), l2] [.int (iI 1)] (wU (wE c w1 ((yE c w1) ++ [w0])) (yU c - 100)) Q
  generalize ed4 : wU (wE c w1 ((yE c w1) ++ [w0])) (yU c - 100) = d4
  replace h := h _ ed4.symm
  refine cq_R (fun hRd4 => ?_)
  refine cq_g (pc' := 65) (ls' := [some (.ref r0), some (.ref r1), l2]) (st' := []) dX1_list_64 (fun _ _ => rfl) ?_
  exact h
theorem c9_65 {c : CS} {Q : Rs → CS → Prop} {r0 : Nat} {r1 : Nat} {l2 : Option Value}
    (h : yK c r0 = 3 ∧ ∃ b2, yP c r0 0 = some b2 ∧ (yK c r0 = 3 ∧ yK c b2 = 1 ∧ ((0 : Int) ≤ yI c r0 1 ∧ yI c r0 1 < (yE c b2).length) ∧ ∃ b6, (yE c b2).getD (yI c r0 1).toNat 0 = b6 ∧ (yK c b6 = 6 ∧ yK c b6 = 6 ∧ CW g B O 39 0 [some (.ref b6), some (.ref r1)] [] c (CK g B O 9 83 [some (.ref r0), some (.ref r1), l2] [] Q false))))  :
    CW g B O 9 65 [some (.ref r0), some (.ref r1), l2] [] c Q := by
  refine cq_R (fun hRc => ?_)
  refine cq_g (pc' := 66) (ls' := [some (.ref r0), some (.ref r1), l2]) (st' := [.ref r0]) dX1_list_65 (fun _ _ => rfl) ?_
  obtain ⟨hK1, b2, hP, h⟩ := h
  refine cq_getP dX1_list_66 rfl (by decide) rfl (by unfold plK; decide) hK1 hP ?_
  refine cq_g (pc' := 70) (ls' := [some (.ref r0), some (.ref r1), l2]) (st' := [.ref r0, .ref b2]) dX1_list_69 (fun _ _ => rfl) ?_
  obtain ⟨hK3, h⟩ := h
  refine cq_getI dX1_list_70 rfl (by decide) rfl (by unfold plK; decide) hK3 ?_
  obtain ⟨hK4, hx5, b6, hb7, h⟩ := h
  refine cq_call (th := false) (rest := []) (ls2 := [some (.ref b2), some (.int (iI (yI c r0 1)))]) (pc' := 76) dX1_list_73 (fun _ _ => ex_calV rfl (by decide)) rfl (Nat.le_of_ble_eq_true rfl) (Nat.le_of_ble_eq_true rfl) (Nat.le_of_ble_eq_true rfl) (cr_rcv rfl rfl (by decide) hK4) rfl rfl rfl (fun q => nomatch q) (t163 (x := yI c r0 1) hK4 hx5 ?_)
  rw [hb7]
  show CW g B O 9 76 [some (.ref r0), some (.ref r1), l2] [.ref b6] c Q
  obtain ⟨hK8, h⟩ := h
  refine cq_chk dX1_list_76 rfl (by decide) hK8 ?_
  refine cq_g (pc' := 80) (ls' := [some (.ref r0), some (.ref r1), l2]) (st' := [.ref r1, .ref b6]) dX1_list_79 (fun _ _ => rfl) ?_
  obtain ⟨hK9, h⟩ := h
  exact cq_call (th := false) (rest := []) (ls2 := [some (.ref b6), some (.ref r1)]) (pc' := 83) dX1_list_80 (fun _ _ => ex_calV rfl (by decide)) rfl (Nat.le_of_ble_eq_true rfl) (Nat.le_of_ble_eq_true rfl) (Nat.le_of_ble_eq_true rfl) (cr_rcv rfl rfl (by decide) hK9) rfl rfl rfl (fun q => nomatch q) h
theorem c9_83 {c : CS} {Q : Rs → CS → Prop} {r0 : Nat} {l1 : Option Value} {l2 : Option Value}
    (h : yK c r0 = 3 ∧ ((-2147483648 : Int) ≤ (yI c r0 1) + 1 ∧ (yI c r0 1) + 1 ≤ 2147483647) ∧ yK c r0 = 3 ∧ (∀ d3, d3 = wI c r0 1 ((yI c r0 1) + 1) → Q (Sum.inl none) d3))  :
    CW g B O 9 83 [some (.ref r0), l1, l2] [] c Q := by
  refine cq_R (fun hRc => ?_)
  refine cq_g (pc' := 84) (ls' := [some (.ref r0), l1, l2]) (st' := [.ref r0]) dX1_list_83 (fun _ _ => rfl) ?_
  refine cq_g (pc' := 85) (ls' := [some (.ref r0), l1, l2]) (st' := [.ref r0, .ref r0]) dX1_list_84 (fun _ _ => rfl) ?_
  obtain ⟨hK1, h⟩ := h
  refine cq_getI dX1_list_85 rfl (by decide) rfl (by unfold plK; decide) hK1 ?_
  refine cq_ic dX1_list_88 ?_
  obtain ⟨hr2, h⟩ := h
  refine cq_add dX1_list_89 ?_
  obtain ⟨hK4, h⟩ := h
  refine cq_putI dX1_list_90 rfl (by decide) (Or.inl rfl) rfl (by unfold plK; decide) (Or.inl rfl) hr2 hK4 ?_
  generalize ed3 : wI c r0 1 ((yI c r0 1) + 1) = d3
  replace h := h _ ed3.symm
  refine cq_R (fun hRd3 => ?_)
  exact cq_vret dX1_list_93 rfl h
theorem c10_0 {c : CS} {Q : Rs → CS → Prop} {r0 : Nat} {x1 : Int} {l2 : Option Value} {l3 : Option Value} {l4 : Option Value}
    (h : (¬ x1 = 0 → CW g B O 10 7 [some (.ref r0), some (.int (iI x1)), some (.int (iI 0)), l3, l4] [] c Q) ∧ (x1 = 0 → Q (Sum.inl none) c)) (hx1 : (-2147483648 : Int) ≤ x1 ∧ x1 ≤ 2147483647 := by omega) :
    CW g B O 10 0 [some (.ref r0), some (.int (iI x1)), l2, l3, l4] [] c Q := by
  refine cq_R (fun hRc => ?_)
  refine cq_g (pc' := 1) (ls' := [some (.ref r0), some (.int (iI x1)), l2, l3, l4]) (st' := [.int (iI x1)]) dX1_arrange_0 (fun _ _ => rfl) ?_
  obtain ⟨h1, h2⟩ := h
  refine cq_if (t := 5) dX1_arrange_1 (by decide) (d_ne hx1 (by decide)) (fun q => ?_) (fun q => ?_)
  · have h := h1 q
    refine cq_ic dX1_arrange_5 ?_
    refine cq_g (pc' := 7) (ls' := [some (.ref r0), some (.int (iI x1)), some (.int (iI 0)), l3, l4]) (st' := []) dX1_arrange_6 (fun _ _ => rfl) ?_
    exact h
  · have h := h2 (Decidable.of_not_not q)
    exact cq_vret dX1_arrange_4 rfl h
theorem c10_7 {c : CS} {Q : Rs → CS → Prop} {r0 : Nat} {x1 : Int} {x2 : Int} {l3 : Option Value} {l4 : Option Value}
    (h : yK c r0 = 3 ∧ (yI c r0 1 ≤ x2 → Q (Sum.inl none) c) ∧ (x2 < yI c r0 1 → yK c r0 = 3 ∧ ∃ b3, yP c r0 0 = some b3 ∧ (yK c b3 = 1 ∧ ((0 : Int) ≤ x2 ∧ x2 < (yE c b3).length) ∧ ∃ b6, (yE c b3).getD (x2).toNat 0 = b6 ∧ (yK c b6 = 6 ∧ yK c b6 = 6 ∧ CW g B O 40 0 [some (.ref b6), some (.int (iI x1))] [] c (CK g B O 10 32 [some (.ref r0), some (.int (iI x1)), some (.int (iI x2)), some (.ref b6), l4] [] Q false))))) (hx1 : (-2147483648 : Int) ≤ x1 ∧ x1 ≤ 2147483647 := by omega) (hx2 : (-2147483648 : Int) ≤ x2 ∧ x2 ≤ 2147483647 := by omega) :
    CW g B O 10 7 [some (.ref r0), some (.int (iI x1)), some (.int (iI x2)), l3, l4] [] c Q := by
  refine cq_R (fun hRc => ?_)
  refine cq_g (pc' := 8) (ls' := [some (.ref r0), some (.int (iI x1)), some (.int (iI x2)), l3, l4]) (st' := [.int (iI x2)]) dX1_arrange_7 (fun _ _ => rfl) ?_
  refine cq_g (pc' := 9) (ls' := [some (.ref r0), some (.int (iI x1)), some (.int (iI x2)), l3, l4]) (st' := [.ref r0, .int (iI x2)]) dX1_arrange_8 (fun _ _ => rfl) ?_
  obtain ⟨hK1, h⟩ := h
  refine cq_getI dX1_arrange_9 rfl (by decide) rfl (by unfold plK; decide) hK1 ?_
  obtain ⟨h1, h2⟩ := h
  refine cq_icmp (t := 114) dX1_arrange_12 (by decide) (d_ge hx2 (hRc.1 _ _)) (fun q => ?_) (fun q => ?_)
  · have h := h1 q
    exact cq_vret dX1_arrange_114 rfl h
  · have h := h2 (Int.not_le.mp q)
    refine cq_g (pc' := 16) (ls' := [some (.ref r0), some (.int (iI x1)), some (.int (iI x2)), l3, l4]) (st' := [.ref r0]) dX1_arrange_15 (fun _ _ => rfl) ?_
    obtain ⟨hK2, b3, hP, h⟩ := h
    refine cq_getP dX1_arrange_16 rfl (by decide) rfl (by unfold plK; decide) hK2 hP ?_
    refine cq_g (pc' := 20) (ls' := [some (.ref r0), some (.int (iI x1)), some (.int (iI x2)), l3, l4]) (st' := [.int (iI x2), .ref b3]) dX1_arrange_19 (fun _ _ => rfl) ?_
    obtain ⟨hK4, hx5, b6, hb7, h⟩ := h
    refine cq_call (th := false) (rest := []) (ls2 := [some (.ref b3), some (.int (iI x2))]) (pc' := 23) dX1_arrange_20 (fun _ _ => ex_calV rfl (by decide)) rfl (Nat.le_of_ble_eq_true rfl) (Nat.le_of_ble_eq_true rfl) (Nat.le_of_ble_eq_true rfl) (cr_rcv rfl rfl (by decide) hK4) rfl rfl rfl (fun q => nomatch q) (t163 (x := x2) hK4 hx5 ?_)
    rw [hb7]
    show CW g B O 10 23 [some (.ref r0), some (.int (iI x1)), some (.int (iI x2)), l3, l4] [.ref b6] c Q
    obtain ⟨hK8, h⟩ := h
    refine cq_chk dX1_arrange_23 rfl (by decide) hK8 ?_
    refine cq_g (pc' := 27) (ls' := [some (.ref r0), some (.int (iI x1)), some (.int (iI x2)), some (.ref b6), l4]) (st' := []) dX1_arrange_26 (fun _ _ => rfl) ?_
    refine cq_g (pc' := 28) (ls' := [some (.ref r0), some (.int (iI x1)), some (.int (iI x2)), some (.ref b6), l4]) (st' := [.ref b6]) dX1_arrange_27 (fun _ _ => rfl) ?_
    refine cq_g (pc' := 29) (ls' := [some (.ref r0), some (.int (iI x1)), some (.int (iI x2)), some (.ref b6), l4]) (st' := [.int (iI x1), .ref b6]) dX1_arrange_28 (fun _ _ => rfl) ?_
    obtain ⟨hK9, h⟩ := h
    exact cq_call (th := false) (rest := []) (ls2 := [some (.ref b6), some (.int (iI x1))]) (pc' := 32) dX1_arrange_29 (fun _ _ => ex_calV rfl (by decide)) rfl (Nat.le_of_ble_eq_true rfl) (Nat.le_of_ble_eq_true rfl) (Nat.le_of_ble_eq_true rfl) (cr_rcv rfl rfl (by decide) hK9) rfl rfl rfl (fun q => nomatch q) h
theorem c10_32 {c : CS} {Q : Rs → CS → Prop} {r0 : Nat} {x1 : Int} {x2 : Int} {r3 : Nat} {l4 : Option Value}
    (h : CW g B O 10 35 [some (.ref r0), some (.int (iI x1)), some (.int (iI x2)), some (.ref r3), some (.int (iI x2))] [] c Q) (hx1 : (-2147483648 : Int) ≤ x1 ∧ x1 ≤ 2147483647 := by omega) (hx2 : (-2147483648 : Int) ≤ x2 ∧ x2 ≤ 2147483647 := by omega) :
    CW g B O 10 32 [some (.ref r0), some (.int (iI x1)), some (.int (iI x2)), some (.ref r3), l4] [] c Q := by
  refine cq_R (fun hRc => ?_)
  refine cq_g (pc' := 33) (ls' := [some (.ref r0), some (.int (iI x1)), some (.int (iI x2)), some (.ref r3), l4]) (st' := [.int (iI x2)]) dX1_arrange_32 (fun _ _ => rfl) ?_
  refine cq_g (pc' := 35) (ls' := [some (.ref r0), some (.int (iI x1)), some (.int (iI x2)), some (.ref r3), some (.int (iI x2))]) (st' := []) dX1_arrange_33 (fun _ _ => rfl) ?_
  exact h
theorem c10_35 {c : CS} {Q : Rs → CS → Prop} {r0 : Nat} {x1 : Int} {x2 : Int} {r3 : Nat} {x4 : Int}
    (h : (x4 ≤ 0 → CW g B O 10 97 [some (.ref r0), some (.int (iI x1)), some (.int (iI x2)), some (.ref r3), some (.int (iI x4))] [] c Q) ∧ (0 < x4 → yK c r0 = 3 ∧ ∃ b2, yP c r0 0 = some b2 ∧ (((-2147483648 : Int) ≤ x4 - 1 ∧ x4 - 1 ≤ 2147483647) ∧ yK c b2 = 1 ∧ ((0 : Int) ≤ x4 - 1 ∧ x4 - 1 < (yE c b2).length) ∧ ∃ b6, (yE c b2).getD (x4 - 1).toNat 0 = b6 ∧ (yK c b6 = 6 ∧ yK c b6 = 6 ∧ ∃ b10, yP c b6 2 = some b10 ∧ (yK c r3 = 6 ∧ ∃ b12, yP c r3 2 = some b12 ∧ (yK c b10 = 7 ∧ yK c b12 = 7 ∧ (cmpL (yT c b10) (yT c b12) ≤ 0 → CW g B O 10 97 [some (.ref r0), some (.int (iI x1)), some (.int (iI x2)), some (.ref r3), some (.int (iI x4))] [] c Q) ∧ (0 < cmpL (yT c b10) (yT c b12) → yK c r0 = 3 ∧ ∃ b16, yP c r0 0 = some b16 ∧ (yK c r0 = 3 ∧ ∃ b18, yP c r0 0 = some b18 ∧ (((-2147483648 : Int) ≤ x4 - 1 ∧ x4 - 1 ≤ 2147483647) ∧ yK c b18 = 1 ∧ ((0 : Int) ≤ x4 - 1 ∧ x4 - 1 < (yE c b18).length) ∧ ∃ b22, (yE c b18).getD (x4 - 1).toNat 0 = b22 ∧ (yK c b22 = 6 ∧ yK c b16 = 1 ∧ ((0 : Int) ≤ x4 ∧ x4 < (yE c b16).length) ∧ (1 ≤ yK c b22 ∧ yK c b22 ≤ 9) ∧ (∀ d30, d30 = wE c b16 ((yE c b16).set (x4).toNat b22) → ∀ b28 : Nat, ((-2147483648 : Int) ≤ x4 + (-1) ∧ x4 + (-1) ≤ 2147483647) ∧ CW g B O 10 35 [some (.ref r0), some (.int (iI x1)), some (.int (iI x2)), some (.ref r3), some (.int (iI (x4 + (-1))))] [] d30 Q))))))))))) (hx1 : (-2147483648 : Int) ≤ x1 ∧ x1 ≤ 2147483647 := by omega) (hx2 : (-2147483648 : Int) ≤ x2 ∧ x2 ≤ 2147483647 := by omega) (hx4 : (-2147483648 : Int) ≤ x4 ∧ x4 ≤ 2147483647 := by omega) :
    CW g B O 10 35 [some (.ref r0), some (.int (iI x1)), some (.int (iI x2)), some (.ref r3), some (.int (iI x4))] [] c Q := by
  refine cq_R (fun hRc => ?_)
  refine cq_g (pc' := 37) (ls' := [some (.ref r0), some (.int (iI x1)), some (.int (iI x2)), some (.ref r3), some (.int (iI x4))]) (st' := [.int (iI x4)]) dX1_arrange_35 (fun _ _ => rfl) ?_
  obtain ⟨h1, h2⟩ := h
  refine cq_if (t := 97) dX1_arrange_37 (by decide) (d_le hx4 (by decide)) (fun q => ?_) (fun q => ?_)
  · have h := h1 q
    exact h
  · have h := h2 (Int.not_le.mp q)
    refine cq_g (pc' := 41) (ls' := [some (.ref r0), some (.int (iI x1)), some (.int (iI x2)), some (.ref r3), some (.int (iI x4))]) (st' := [.ref r0]) dX1_arrange_40 (fun _ _ => rfl) ?_
    obtain ⟨hK1, b2, hP, h⟩ := h
    refine cq_getP dX1_arrange_41 rfl (by decide) rfl (by unfold plK; decide) hK1 hP ?_
    refine cq_g (pc' := 46) (ls' := [some (.ref r0), some (.int (iI x1)), some (.int (iI x2)), some (.ref r3), some (.int (iI x4))]) (st' := [.int (iI x4), .ref b2]) dX1_arrange_44 (fun _ _ => rfl) ?_
    refine cq_ic dX1_arrange_46 ?_
    obtain ⟨hr3, h⟩ := h
    refine cq_sub dX1_arrange_47 ?_
    obtain ⟨hK4, hx5, b6, hb7, h⟩ := h
    refine cq_call (th := false) (rest := []) (ls2 := [some (.ref b2), some (.int (iI (x4 - 1)))]) (pc' := 51) dX1_arrange_48 (fun _ _ => ex_calV rfl (by decide)) rfl (Nat.le_of_ble_eq_true rfl) (Nat.le_of_ble_eq_true rfl) (Nat.le_of_ble_eq_true rfl) (cr_rcv rfl rfl (by decide) hK4) rfl rfl rfl (fun q => nomatch q) (t163 (x := x4 - 1) hK4 hx5 ?_)
    rw [hb7]
    show CW g B O 10 51 [some (.ref r0), some (.int (iI x1)), some (.int (iI x2)), some (.ref r3), some (.int (iI x4))] [.ref b6] c Q
    obtain ⟨hK8, h⟩ := h
    refine cq_chk dX1_arrange_51 rfl (by decide) hK8 ?_
    obtain ⟨hK9, b10, hP, h⟩ := h
    refine cq_getP dX1_arrange_54 rfl (by decide) rfl (by unfold plK; decide) hK9 hP ?_
    refine cq_g (pc' := 58) (ls' := [some (.ref r0), some (.int (iI x1)), some (.int (iI x2)), some (.ref r3), some (.int (iI x4))]) (st' := [.ref r3, .ref b10]) dX1_arrange_57 (fun _ _ => rfl) ?_
    obtain ⟨hK11, b12, hP, h⟩ := h
    refine cq_getP dX1_arrange_58 rfl (by decide) rfl (by unfold plK; decide) hK11 hP ?_
    obtain ⟨hK13, hK14, h⟩ := h
    refine cq_call (th := false) (rest := []) (ls2 := [some (.ref b10), some (.ref b12), none, none]) (pc' := 64) dX1_arrange_61 (fun _ _ => ex_calV rfl (by decide)) rfl (Nat.le_of_ble_eq_true rfl) (Nat.le_of_ble_eq_true rfl) (Nat.le_of_ble_eq_true rfl) (cr_rcv rfl rfl (by decide) hK13) rfl rfl rfl (fun q => nomatch q) (t64 hK13 hK14 ?_)
    show CW g B O 10 64 [some (.ref r0), some (.int (iI x1)), some (.int (iI x2)), some (.ref r3), some (.int (iI x4))] [.int (iI (cmpL (yT c b10) (yT c b12)))] c Q
    obtain ⟨h1, h2⟩ := h
    refine cq_if (t := 97) dX1_arrange_64 (by decide) (d_le (crC hRc hK13 hK14) (by decide)) (fun q => ?_) (fun q => ?_)
    · have h := h1 q
      exact h
    · have h := h2 (Int.not_le.mp q)
      refine cq_g (pc' := 68) (ls' := [some (.ref r0), some (.int (iI x1)), some (.int (iI x2)), some (.ref r3), some (.int (iI x4))]) (st' := [.ref r0]) dX1_arrange_67 (fun _ _ => rfl) ?_
      obtain ⟨hK15, b16, hP, h⟩ := h
      refine cq_getP dX1_arrange_68 rfl (by decide) rfl (by unfold plK; decide) hK15 hP ?_
      refine cq_g (pc' := 73) (ls' := [some (.ref r0), some (.int (iI x1)), some (.int (iI x2)), some (.ref r3), some (.int (iI x4))]) (st' := [.int (iI x4), .ref b16]) dX1_arrange_71 (fun _ _ => rfl) ?_
      refine cq_g (pc' := 74) (ls' := [some (.ref r0), some (.int (iI x1)), some (.int (iI x2)), some (.ref r3), some (.int (iI x4))]) (st' := [.ref r0, .int (iI x4), .ref b16]) dX1_arrange_73 (fun _ _ => rfl) ?_
      obtain ⟨hK17, b18, hP, h⟩ := h
      refine cq_getP dX1_arrange_74 rfl (by decide) rfl (by unfold plK; decide) hK17 hP ?_
      refine cq_g (pc' := 79) (ls' := [some (.ref r0), some (.int (iI x1)), some (.int (iI x2)), some (.ref r3), some (.int (iI x4))]) (st' := [.int (iI x4), .ref b18, .int (iI x4), .ref b16]) dX1_arrange_77 (fun _ _ => rfl) ?_
      refine cq_ic dX1_arrange_79 ?_
      obtain ⟨hr19, h⟩ := h
      refine cq_sub dX1_arrange_80 ?_
      obtain ⟨hK20, hx21, b22, hb23, h⟩ := h
      refine cq_call (th := false) (rest := [.int (iI x4), .ref b16]) (ls2 := [some (.ref b18), some (.int (iI (x4 - 1)))]) (pc' := 84) dX1_arrange_81 (fun _ _ => ex_calV rfl (by decide)) rfl (Nat.le_of_ble_eq_true rfl) (Nat.le_of_ble_eq_true rfl) (Nat.le_of_ble_eq_true rfl) (cr_rcv rfl rfl (by decide) hK20) rfl rfl rfl (fun q => nomatch q) (t163 (x := x4 - 1) hK20 hx21 ?_)
      rw [hb23]
      show CW g B O 10 84 [some (.ref r0), some (.int (iI x1)), some (.int (iI x2)), some (.ref r3), some (.int (iI x4))] [.ref b22, .int (iI x4), .ref b16] c Q
      obtain ⟨hK24, h⟩ := h
      refine cq_chk dX1_arrange_84 rfl (by decide) hK24 ?_
      obtain ⟨hK25, hx26, hr27, h⟩ := h
      refine cq_call (th := false) (rest := []) (ls2 := [some (.ref b16), some (.int (iI x4)), some (.ref b22), none]) (pc' := 90) dX1_arrange_87 (fun _ _ => ex_calV rfl (by decide)) rfl (Nat.le_of_ble_eq_true rfl) (Nat.le_of_ble_eq_true rfl) (Nat.le_of_ble_eq_true rfl) (cr_rcv rfl rfl (by decide) hK25) rfl rfl rfl (fun q => nomatch q) (t164 (x := x4) hK25 hx26 hr27 ?_)
      generalize (yE c b16).getD (x4).toNat 0 = b28
      show CW g B O 10 90 [some (.ref r0), some (.int (iI x1)), some (.int (iI x2)), some (.ref r3), some (.int (iI x4))] [.ref b28] (wE c b16 ((yE c b16).set (x4).toNat b22)) Q
      generalize ed30 : wE c b16 ((yE c b16).set (x4).toNat b22) = d30
      replace h := h _ ed30.symm b28
      refine cq_R (fun hRd30 => ?_)
      refine cq_g (pc' := 91) (ls' := [some (.ref r0), some (.int (iI x1)), some (.int (iI x2)), some (.ref r3), some (.int (iI x4))]) (st' := []) dX1_arrange_90 (fun _ _ => rfl) ?_
      obtain ⟨hr31, h⟩ := h
      refine cq_inc (ls' := [some (.ref r0), some (.int (iI x1)), some (.int (iI x2)), some (.ref r3), some (.int (iI (x4 + (-1))))]) dX1_arrange_91 rfl (Nat.le_of_ble_eq_true rfl) rfl ?_
      refine cq_goto (t := 35) dX1_arrange_94 (by decide) ?_
      exact h
theorem c10_97 {c : CS} {Q : Rs → CS → Prop} {r0 : Nat} {x1 : Int} {x2 : Int} {r3 : Nat} {x4 : Int}
    (h : yK c r0 = 3 ∧ ∃ b2, yP c r0 0 = some b2 ∧ (yK c b2 = 1 ∧ ((0 : Int) ≤ x4 ∧ x4 < (yE c b2).length) ∧ (1 ≤ yK c r3 ∧ yK c r3 ≤ 9) ∧ (∀ d8, d8 = wE c b2 ((yE c b2).set (x4).toNat r3) → ∀ b6 : Nat, ((-2147483648 : Int) ≤ x2 + 1 ∧ x2 + 1 ≤ 2147483647) ∧ CW g B O 10 7 [some (.ref r0), some (.int (iI x1)), some (.int (iI (x2 + 1))), some (.ref r3), some (.int (iI x4))] [] d8 Q))) (hx1 : (-2147483648 : Int) ≤ x1 ∧ x1 ≤ 2147483647 := by omega) (hx2 : (-2147483648 : Int) ≤ x2 ∧ x2 ≤ 2147483647 := by omega) (hx4 : (-2147483648 : Int) ≤ x4 ∧ x4 ≤ 2147483647 := by omega) :
    CW g B O 10 97 [some (.ref r0), some (.int (iI x1)), some (.int (iI x2)), some (.ref r3), some (.int (iI x4))] [] c Q := by
  refine cq_R (fun hRc => ?_)
  refine cq_g (pc' := 98) (ls' := [some (.ref r0), some (.int (iI x1)), some (.int (iI x2)), some (.ref r3), some (.int (iI x4))]) (st' := [.ref r0]) dX1_arrange_97 (fun _ _ => rfl) ?_
  obtain ⟨hK1, b2, hP, h⟩ := h
  refine cq_getP dX1_arrange_98 rfl (by decide) rfl (by unfold plK; decide) hK1 hP ?_
  refine cq_g (pc' := 103) (ls' := [some (.ref r0), some (.int (iI x1)), some (.int (iI x2)), some (.ref r3), some (.int (iI x4))]) (st' := [.int (iI x4), .ref b2]) dX1_arrange_101 (fun _ _ => rfl) ?_
  refine cq_g (pc' := 104) (ls' := [some (.ref r0), some (.int (iI x1)), some (.int (iI x2)), some (.ref r3), some (.int (iI x4))]) (st' := [.ref r3, .int (iI x4), .ref b2]) dX1_arrange_103 (fun _ _ => rfl) ?_
  obtain ⟨hK3, hx4, hr5, h⟩ := h
  refine cq_call (th := false) (rest := []) (ls2 := [some (.ref b2), some (.int (iI x4)), some (.ref r3), none]) (pc' := 107) dX1_arrange_104 (fun _ _ => ex_calV rfl (by decide)) rfl (Nat.le_of_ble_eq_true rfl) (Nat.le_of_ble_eq_true rfl) (Nat.le_of_ble_eq_true rfl) (cr_rcv rfl rfl (by decide) hK3) rfl rfl rfl (fun q => nomatch q) (t164 (x := x4) hK3 hx4 hr5 ?_)
  generalize (yE c b2).getD (x4).toNat 0 = b6
  show CW g B O 10 107 [some (.ref r0), some (.int (iI x1)), some (.int (iI x2)), some (.ref r3), some (.int (iI x4))] [.ref b6] (wE c b2 ((yE c b2).set (x4).toNat r3)) Q
  generalize ed8 : wE c b2 ((yE c b2).set (x4).toNat r3) = d8
  replace h := h _ ed8.symm b6
  refine cq_R (fun hRd8 => ?_)
  refine cq_g (pc' := 108) (ls' := [some (.ref r0), some (.int (iI x1)), some (.int (iI x2)), some (.ref r3), some (.int (iI x4))]) (st' := []) dX1_arrange_107 (fun _ _ => rfl) ?_
  obtain ⟨hr9, h⟩ := h
  refine cq_inc (ls' := [some (.ref r0), some (.int (iI x1)), some (.int (iI (x2 + 1))), some (.ref r3), some (.int (iI x4))]) dX1_arrange_108 rfl (Nat.le_of_ble_eq_true rfl) rfl ?_
  refine cq_goto (t := 7) dX1_arrange_111 (by decide) ?_
  exact h
theorem c11_0 {c : CS} {Q : Rs → CS → Prop} {r0 : Nat} {x1 : Int} {l2 : Option Value}
    (h : CW g B O 11 2 [some (.ref r0), some (.int (iI x1)), some (.int (iI 0))] [] c Q) (hx1 : (-2147483648 : Int) ≤ x1 ∧ x1 ≤ 2147483647 := by omega) :
    CW g B O 11 0 [some (.ref r0), some (.int (iI x1)), l2] [] c Q := by
  refine cq_R (fun hRc => ?_)
  refine cq_ic dX1_setBases_0 ?_
  refine cq_g (pc' := 2) (ls' := [some (.ref r0), some (.int (iI x1)), some (.int (iI 0))]) (st' := []) dX1_setBases_1 (fun _ _ => rfl) ?_
  exact h
theorem c11_2 {c : CS} {Q : Rs → CS → Prop} {r0 : Nat} {x1 : Int} {x2 : Int}
    (h : yK c r0 = 3 ∧ (yI c r0 1 ≤ x2 → Q (Sum.inl none) c) ∧ (x2 < yI c r0 1 → yK c r0 = 3 ∧ ∃ b3, yP c r0 0 = some b3 ∧ (yK c b3 = 1 ∧ ((0 : Int) ≤ x2 ∧ x2 < (yE c b3).length) ∧ ∃ b6, (yE c b3).getD (x2).toNat 0 = b6 ∧ (yK c b6 = 6 ∧ yK c r0 = 3 ∧ ∃ b10, yP c r0 0 = some b10 ∧ (yK c b10 = 1 ∧ ((0 : Int) ≤ x2 ∧ x2 < (yE c b10).length) ∧ ∃ b13, (yE c b10).getD (x2).toNat 0 = b13 ∧ (yK c b13 = 6 ∧ yK c r0 = 3 ∧ CW g B O 12 0 [some (.ref r0), some (.ref b13), none] [] c (CK g B O 11 37 [some (.ref r0), some (.int (iI x1)), some (.int (iI x2))] [.int (iI x1), .ref b6] Q false))))))) (hx1 : (-2147483648 : Int) ≤ x1 ∧ x1 ≤ 2147483647 := by omega) (hx2 : (-2147483648 : Int) ≤ x2 ∧ x2 ≤ 2147483647 := by omega) :
    CW g B O 11 2 [some (.ref r0), some (.int (iI x1)), some (.int (iI x2))] [] c Q := by
  refine cq_R (fun hRc => ?_)
  refine cq_g (pc' := 3) (ls' := [some (.ref r0), some (.int (iI x1)), some (.int (iI x2))]) (st' := [.int (iI x2)]) dX1_setBases_2 (fun _ _ => rfl) ?_
  refine cq_g (pc' := 4) (ls' := [some (.ref r0), some (.int (iI x1)), some (.int (iI x2))]) (st' := [.ref r0, .int (iI x2)]) dX1_setBases_3 (fun _ _ => rfl) ?_
  obtain ⟨hK1, h⟩ := h
  refine cq_getI dX1_setBases_4 rfl (by decide) rfl (by unfold plK; decide) hK1 ?_
  obtain ⟨h1, h2⟩ := h
  refine cq_icmp (t := 46) dX1_setBases_7 (by decide) (d_ge hx2 (hRc.1 _ _)) (fun q => ?_) (fun q => ?_)
  · have h := h1 q
    exact cq_vret dX1_setBases_46 rfl h
  · have h := h2 (Int.not_le.mp q)
    refine cq_g (pc' := 11) (ls' := [some (.ref r0), some (.int (iI x1)), some (.int (iI x2))]) (st' := [.ref r0]) dX1_setBases_10 (fun _ _ => rfl) ?_
    obtain ⟨hK2, b3, hP, h⟩ := h
    refine cq_getP dX1_setBases_11 rfl (by decide) rfl (by unfold plK; decide) hK2 hP ?_
    refine cq_g (pc' := 15) (ls' := [some (.ref r0), some (.int (iI x1)), some (.int (iI x2))]) (st' := [.int (iI x2), .ref b3]) dX1_setBases_14 (fun _ _ => rfl) ?_
    obtain ⟨hK4, hx5, b6, hb7, h⟩ := h
    refine cq_call (th := false) (rest := []) (ls2 := [some (.ref b3), some (.int (iI x2))]) (pc' := 18) dX1_setBases_15 (fun _ _ => ex_calV rfl (by decide)) rfl (Nat.le_of_ble_eq_true rfl) (Nat.le_of_ble_eq_true rfl) (Nat.le_of_ble_eq_true rfl) (cr_rcv rfl rfl (by decide) hK4) rfl rfl rfl (fun q => nomatch q) (t163 (x := x2) hK4 hx5 ?_)
    rw [hb7]
    show CW g B O 11 18 [some (.ref r0), some (.int (iI x1)), some (.int (iI x2))] [.ref b6] c Q
    obtain ⟨hK8, h⟩ := h
    refine cq_chk dX1_setBases_18 rfl (by decide) hK8 ?_
    refine cq_g (pc' := 22) (ls' := [some (.ref r0), some (.int (iI x1)), some (.int (iI x2))]) (st' := [.int (iI x1), .ref b6]) dX1_setBases_21 (fun _ _ => rfl) ?_
    refine cq_g (pc' := 23) (ls' := [some (.ref r0), some (.int (iI x1)), some (.int (iI x2))]) (st' := [.ref r0, .int (iI x1), .ref b6]) dX1_setBases_22 (fun _ _ => rfl) ?_
    refine cq_g (pc' := 24) (ls' := [some (.ref r0), some (.int (iI x1)), some (.int (iI x2))]) (st' := [.ref r0, .ref r0, .int (iI x1), .ref b6]) dX1_setBases_23 (fun _ _ => rfl) ?_
    obtain ⟨hK9, b10, hP, h⟩ := h
    refine cq_getP dX1_setBases_24 rfl (by decide) rfl (by unfold plK; decide) hK9 hP ?_
    refine cq_g (pc' := 28) (ls' := [some (.ref r0), some (.int (iI x1)), some (.int (iI x2))]) (st' := [.int (iI x2), .ref b10, .ref r0, .int (iI x1), .ref b6]) dX1_setBases_27 (fun _ _ => rfl) ?_
    obtain ⟨hK11, hx12, b13, hb14, h⟩ := h
    refine cq_call (th := false) (rest := [.ref r0, .int (iI x1), .ref b6]) (ls2 := [some (.ref b10), some (.int (iI x2))]) (pc' := 31) dX1_setBases_28 (fun _ _ => ex_calV rfl (by decide)) rfl (Nat.le_of_ble_eq_true rfl) (Nat.le_of_ble_eq_true rfl) (Nat.le_of_ble_eq_true rfl) (cr_rcv rfl rfl (by decide) hK11) rfl rfl rfl (fun q => nomatch q) (t163 (x := x2) hK11 hx12 ?_)
    rw [hb14]
    show CW g B O 11 31 [some (.ref r0), some (.int (iI x1)), some (.int (iI x2))] [.ref b13, .ref r0, .int (iI x1), .ref b6] c Q
    obtain ⟨hK15, h⟩ := h
    refine cq_chk dX1_setBases_31 rfl (by decide) hK15 ?_
    obtain ⟨hK16, h⟩ := h
    exact cq_call (th := false) (rest := [.int (iI x1), .ref b6]) (ls2 := [some (.ref r0), some (.ref b13), none]) (pc' := 37) dX1_setBases_34 (fun _ _ => ex_calV rfl (by decide)) rfl (Nat.le_of_ble_eq_true rfl) (Nat.le_of_ble_eq_true rfl) (Nat.le_of_ble_eq_true rfl) (cr_rcv rfl rfl (by decide) hK16) rfl rfl rfl (fun q => nomatch q) h
theorem c11_37 {c : CS} {Q : Rs → CS → Prop} {r0 : Nat} {x1 : Int} {x2 : Int} {u0 : Int} {u1 : Int} {w2 : Nat}
    (h : yK c w2 = 6 ∧ CW g B O 43 0 [some (.ref w2), some (.int (iI u1)), some (.int (iI u0))] [] c (CK g B O 11 40 [some (.ref r0), some (.int (iI x1)), some (.int (iI x2))] [] Q false)) (hx1 : (-2147483648 : Int) ≤ x1 ∧ x1 ≤ 2147483647 := by omega) (hx2 : (-2147483648 : Int) ≤ x2 ∧ x2 ≤ 2147483647 := by omega) (hu0 : (-2147483648 : Int) ≤ u0 ∧ u0 ≤ 2147483647 := by omega) (hu1 : (-2147483648 : Int) ≤ u1 ∧ u1 ≤ 2147483647 := by omega) :
    CW g B O 11 37 [some (.ref r0), some (.int (iI x1)), some (.int (iI x2))] [.int (iI u0), .int (iI u1), .ref w2] c Q := by
  refine cq_R (fun hRc => ?_)
  obtain ⟨hK1, h⟩ := h
  exact cq_call (th := false) (rest := []) (ls2 := [some (.ref w2), some (.int (iI u1)), some (.int (iI u0))]) (pc' := 40) dX1_setBases_37 (fun _ _ => ex_calV rfl (by decide)) rfl (Nat.le_of_ble_eq_true rfl) (Nat.le_of_ble_eq_true rfl) (Nat.le_of_ble_eq_true rfl) (cr_rcv rfl rfl (by decide) hK1) rfl rfl rfl (fun q => nomatch q) h
theorem c11_40 {c : CS} {Q : Rs → CS → Prop} {r0 : Nat} {x1 : Int} {x2 : Int}
    (h : ((-2147483648 : Int) ≤ x2 + 1 ∧ x2 + 1 ≤ 2147483647) ∧ CW g B O 11 2 [some (.ref r0), some (.int (iI x1)), some (.int (iI (x2 + 1)))] [] c Q) (hx1 : (-2147483648 : Int) ≤ x1 ∧ x1 ≤ 2147483647 := by omega) (hx2 : (-2147483648 : Int) ≤ x2 ∧ x2 ≤ 2147483647 := by omega) :
    CW g B O 11 40 [some (.ref r0), some (.int (iI x1)), some (.int (iI x2))] [] c Q := by
  refine cq_R (fun hRc => ?_)
  obtain ⟨hr1, h⟩ := h
  refine cq_inc (ls' := [some (.ref r0), some (.int (iI x1)), some (.int (iI (x2 + 1)))]) dX1_setBases_40 rfl (Nat.le_of_ble_eq_true rfl) rfl ?_
  refine cq_goto (t := 2) dX1_setBases_43 (by decide) ?_
  exact h
theorem c12_0 {c : CS} {Q : Rs → CS → Prop} {r0 : Nat} {r1 : Nat} {l2 : Option Value}
    (h : CW g B O 12 2 [some (.ref r0), some (.ref r1), some (.int (iI 0))] [] c Q)  :
    CW g B O 12 0 [some (.ref r0), some (.ref r1), l2] [] c Q := by
  refine cq_R (fun hRc => ?_)
  refine cq_ic dX1_isMistaken_0 ?_
  refine cq_g (pc' := 2) (ls' := [some (.ref r0), some (.ref r1), some (.int (iI 0))]) (st' := []) dX1_isMistaken_1 (fun _ _ => rfl) ?_
  exact h
theorem c12_2 {c : CS} {Q : Rs → CS → Prop} {r0 : Nat} {r1 : Nat} {x2 : Int}
    (h : yK c r0 = 3 ∧ (yI c r0 1 ≤ x2 → Q (Sum.inl (some (.int (iI 0)))) c) ∧ (x2 < yI c r0 1 → yK c r0 = 3 ∧ ∃ b3, yP c r0 0 = some b3 ∧ (yK c b3 = 1 ∧ ((0 : Int) ≤ x2 ∧ x2 < (yE c b3).length) ∧ ∃ b6, (yE c b3).getD (x2).toNat 0 = b6 ∧ (yK c b6 = 6 ∧ yK c r1 = 6 ∧ CW g B O 42 0 [some (.ref r1), some (.ref b6)] [] c (CK g B O 12 25 [some (.ref r0), some (.ref r1), some (.int (iI x2))] [] Q false))))) (hx2 : (-2147483648 : Int) ≤ x2 ∧ x2 ≤ 2147483647 := by omega) :
    CW g B O 12 2 [some (.ref r0), some (.ref r1), some (.int (iI x2))] [] c Q := by
  refine cq_R (fun hRc => ?_)
  refine cq_g (pc' := 3) (ls' := [some (.ref r0), some (.ref r1), some (.int (iI x2))]) (st' := [.int (iI x2)]) dX1_isMistaken_2 (fun _ _ => rfl) ?_
  refine cq_g (pc' := 4) (ls' := [some (.ref r0), some (.ref r1), some (.int (iI x2))]) (st' := [.ref r0, .int (iI x2)]) dX1_isMistaken_3 (fun _ _ => rfl) ?_
  obtain ⟨hK1, h⟩ := h
  refine cq_getI dX1_isMistaken_4 rfl (by decide) rfl (by unfold plK; decide) hK1 ?_
  obtain ⟨h1, h2⟩ := h
  refine cq_icmp (t := 36) dX1_isMistaken_7 (by decide) (d_ge hx2 (hRc.1 _ _)) (fun q => ?_) (fun q => ?_)
  · have h := h1 q
    refine cq_ic dX1_isMistaken_36 ?_
    exact cq_ret dX1_isMistaken_37 rfl h
  · have h := h2 (Int.not_le.mp q)
    refine cq_g (pc' := 11) (ls' := [some (.ref r0), some (.ref r1), some (.int (iI x2))]) (st' := [.ref r1]) dX1_isMistaken_10 (fun _ _ => rfl) ?_
    refine cq_g (pc' := 12) (ls' := [some (.ref r0), some (.ref r1), some (.int (iI x2))]) (st' := [.ref r0, .ref r1]) dX1_isMistaken_11 (fun _ _ => rfl) ?_
    obtain ⟨hK2, b3, hP, h⟩ := h
    refine cq_getP dX1_isMistaken_12 rfl (by decide) rfl (by unfold plK; decide) hK2 hP ?_
    refine cq_g (pc' := 16) (ls' := [some (.ref r0), some (.ref r1), some (.int (iI x2))]) (st' := [.int (iI x2), .ref b3, .ref r1]) dX1_isMistaken_15 (fun _ _ => rfl) ?_
    obtain ⟨hK4, hx5, b6, hb7, h⟩ := h
    refine cq_call (th := false) (rest := [.ref r1]) (ls2 := [some (.ref b3), some (.int (iI x2))]) (pc' := 19) dX1_isMistaken_16 (fun _ _ => ex_calV rfl (by decide)) rfl (Nat.le_of_ble_eq_true rfl) (Nat.le_of_ble_eq_true rfl) (Nat.le_of_ble_eq_true rfl) (cr_rcv rfl rfl (by decide) hK4) rfl rfl rfl (fun q => nomatch q) (t163 (x := x2) hK4 hx5 ?_)
    rw [hb7]
    show CW g B O 12 19 [some (.ref r0), some (.ref r1), some (.int (iI x2))] [.ref b6, .ref r1] c Q
    obtain ⟨hK8, h⟩ := h
    refine cq_chk dX1_isMistaken_19 rfl (by decide) hK8 ?_
    obtain ⟨hK9, h⟩ := h
    exact cq_call (th := false) (rest := []) (ls2 := [some (.ref r1), some (.ref b6)]) (pc' := 25) dX1_isMistaken_22 (fun _ _ => ex_calV rfl (by decide)) rfl (Nat.le_of_ble_eq_true rfl) (Nat.le_of_ble_eq_true rfl) (Nat.le_of_ble_eq_true rfl) (cr_rcv rfl rfl (by decide) hK9) rfl rfl rfl (fun q => nomatch q) h
theorem c12_25 {c : CS} {Q : Rs → CS → Prop} {r0 : Nat} {r1 : Nat} {x2 : Int} {u0 : Int}
    (h : (u0 = 0 → ((-2147483648 : Int) ≤ x2 + 1 ∧ x2 + 1 ≤ 2147483647) ∧ CW g B O 12 2 [some (.ref r0), some (.ref r1), some (.int (iI (x2 + 1)))] [] c Q) ∧ (¬ u0 = 0 → Q (Sum.inl (some (.int (iI 1)))) c)) (hx2 : (-2147483648 : Int) ≤ x2 ∧ x2 ≤ 2147483647 := by omega) (hu0 : (-2147483648 : Int) ≤ u0 ∧ u0 ≤ 2147483647 := by omega) :
    CW g B O 12 25 [some (.ref r0), some (.ref r1), some (.int (iI x2))] [.int (iI u0)] c Q := by
  refine cq_R (fun hRc => ?_)
  obtain ⟨h1, h2⟩ := h
  refine cq_if (t := 30) dX1_isMistaken_25 (by decide) (d_eq hu0 (by decide)) (fun q => ?_) (fun q => ?_)
  · have h := h1 q
    obtain ⟨hr1, h⟩ := h
    refine cq_inc (ls' := [some (.ref r0), some (.ref r1), some (.int (iI (x2 + 1)))]) dX1_isMistaken_30 rfl (Nat.le_of_ble_eq_true rfl) rfl ?_
    refine cq_goto (t := 2) dX1_isMistaken_33 (by decide) ?_
    exact h
  · have h := h2 q
    refine cq_ic dX1_isMistaken_28 ?_
    exact cq_ret dX1_isMistaken_29 rfl h
theorem c13_0 {c : CS} {Q : Rs → CS → Prop} {r0 : Nat} {l1 : Option Value}
    (h : CW g B O 13 2 [some (.ref r0), some (.int (iI 0))] [] c Q)  :
    CW g B O 13 0 [some (.ref r0), l1] [] c Q := by
  refine cq_R (fun hRc => ?_)
  refine cq_ic dX1_setSuffixes_0 ?_
  refine cq_g (pc' := 2) (ls' := [some (.ref r0), some (.int (iI 0))]) (st' := []) dX1_setSuffixes_1 (fun _ _ => rfl) ?_
  exact h
theorem c13_2 {c : CS} {Q : Rs → CS → Prop} {r0 : Nat} {x1 : Int}
    (h : yK c r0 = 3 ∧ (yI c r0 1 ≤ x1 → CW g B O 13 33 [some (.ref r0), some (.int (iI 0))] [] c Q) ∧ (x1 < yI c r0 1 → yK c r0 = 3 ∧ ∃ b3, yP c r0 0 = some b3 ∧ (yK c b3 = 1 ∧ ((0 : Int) ≤ x1 ∧ x1 < (yE c b3).length) ∧ ∃ b6, (yE c b3).getD (x1).toNat 0 = b6 ∧ (yK c b6 = 6 ∧ yK c b6 = 6 ∧ (∀ d9, d9 = wI c b6 6 0 → ((-2147483648 : Int) ≤ x1 + 1 ∧ x1 + 1 ≤ 2147483647) ∧ CW g B O 13 2 [some (.ref r0), some (.int (iI (x1 + 1)))] [] d9 Q))))) (hx1 : (-2147483648 : Int) ≤ x1 ∧ x1 ≤ 2147483647 := by omega) :
    CW g B O 13 2 [some (.ref r0), some (.int (iI x1))] [] c Q := by
  refine cq_R (fun hRc => ?_)
  refine cq_g (pc' := 3) (ls' := [some (.ref r0), some (.int (iI x1))]) (st' := [.int (iI x1)]) dX1_setSuffixes_2 (fun _ _ => rfl) ?_
  refine cq_g (pc' := 4) (ls' := [some (.ref r0), some (.int (iI x1))]) (st' := [.ref r0, .int (iI x1)]) dX1_setSuffixes_3 (fun _ _ => rfl) ?_
  obtain ⟨hK1, h⟩ := h
  refine cq_getI dX1_setSuffixes_4 rfl (by decide) rfl (by unfold plK; decide) hK1 ?_
  obtain ⟨h1, h2⟩ := h
  refine cq_icmp (t := 31) dX1_setSuffixes_7 (by decide) (d_ge hx1 (hRc.1 _ _)) (fun q => ?_) (fun q => ?_)
  · have h := h1 q
    refine cq_ic dX1_setSuffixes_31 ?_
    refine cq_g (pc' := 33) (ls' := [some (.ref r0), some (.int (iI 0))]) (st' := []) dX1_setSuffixes_32 (fun _ _ => rfl) ?_
    exact h
  · have h := h2 (Int.not_le.mp q)
    refine cq_g (pc' := 11) (ls' := [some (.ref r0), some (.int (iI x1))]) (st' := [.ref r0]) dX1_setSuffixes_10 (fun _ _ => rfl) ?_
    obtain ⟨hK2, b3, hP, h⟩ := h
    refine cq_getP dX1_setSuffixes_11 rfl (by decide) rfl (by unfold plK; decide) hK2 hP ?_
    refine cq_g (pc' := 15) (ls' := [some (.ref r0), some (.int (iI x1))]) (st' := [.int (iI x1), .ref b3]) dX1_setSuffixes_14 (fun _ _ => rfl) ?_
    obtain ⟨hK4, hx5, b6, hb7, h⟩ := h
    refine cq_call (th := false) (rest := []) (ls2 := [some (.ref b3), some (.int (iI x1))]) (pc' := 18) dX1_setSuffixes_15 (fun _ _ => ex_calV rfl (by decide)) rfl (Nat.le_of_ble_eq_true rfl) (Nat.le_of_ble_eq_true rfl) (Nat.le_of_ble_eq_true rfl) (cr_rcv rfl rfl (by decide) hK4) rfl rfl rfl (fun q => nomatch q) (t163 (x := x1) hK4 hx5 ?_)
    rw [hb7]
    show CW g B O 13 18 [some (.ref r0), some (.int (iI x1))] [.ref b6] c Q
    obtain ⟨hK8, h⟩ := h
    refine cq_chk dX1_setSuffixes_18 rfl (by decide) hK8 ?_
    refine cq_ic dX1_setSuffixes_21 ?_
    obtain ⟨hK10, h⟩ := h
    refine cq_putI dX1_setSuffixes_22 rfl (by decide) (Or.inl rfl) rfl (by unfold plK; decide) (Or.inl rfl) (by decide) hK10 ?_
    generalize ed9 : wI c b6 6 0 = d9
    replace h := h _ ed9.symm
    refine cq_R (fun hRd9 => ?_)
    obtain ⟨hr11, h⟩ := h
    refine cq_inc (ls' := [some (.ref r0), some (.int (iI (x1 + 1)))]) dX1_setSuffixes_25 rfl (Nat.le_of_ble_eq_true rfl) rfl ?_
    refine cq_goto (t := 2) dX1_setSuffixes_28 (by decide) ?_
    exact h
theorem c13_33 {c : CS} {Q : Rs → CS → Prop} {r0 : Nat} {x1 : Int}
    (h : yK c r0 = 3 ∧ (yI c r0 1 ≤ x1 → Q (Sum.inl none) c) ∧ (x1 < yI c r0 1 → yK c r0 = 3 ∧ ∃ b3, yP c r0 0 = some b3 ∧ (yK c b3 = 1 ∧ ((0 : Int) ≤ x1 ∧ x1 < (yE c b3).length) ∧ ∃ b6, (yE c b3).getD (x1).toNat 0 = b6 ∧ (yK c b6 = 6 ∧ yK c b6 = 6 ∧ (¬ yI c b6 6 = 0 → CW g B O 13 83 [some (.ref r0), some (.int (iI x1))] [] c Q) ∧ (yI c b6 6 = 0 → yK c r0 = 3 ∧ ∃ b11, yP c r0 0 = some b11 ∧ (yK c b11 = 1 ∧ ((0 : Int) ≤ x1 ∧ x1 < (yE c b11).length) ∧ ∃ b14, (yE c b11).getD (x1).toNat 0 = b14 ∧ (yK c b14 = 6 ∧ yK c b14 = 6 ∧ ∃ b18, yP c b14 5 = some b18 ∧ (yK c b18 = 7 ∧ (yT c b18 = [] → CW g B O 13 83 [some (.ref r0), some (.int (iI x1))] [] c Q) ∧ (¬ yT c b18 = [] → yK c r0 = 3 ∧ CW g B O 14 0 [some (.ref r0), some (.int (iI x1)), none, none, none] [] c (CK g B O 13 83 [some (.ref r0), some (.int (iI x1))] [] Q false)))))))))) (hx1 : (-2147483648 : Int) ≤ x1 ∧ x1 ≤ 2147483647 := by omega) :
    CW g B O 13 33 [some (.ref r0), some (.int (iI x1))] [] c Q := by
  refine cq_R (fun hRc => ?_)
  refine cq_g (pc' := 34) (ls' := [some (.ref r0), some (.int (iI x1))]) (st' := [.int (iI x1)]) dX1_setSuffixes_33 (fun _ _ => rfl) ?_
  refine cq_g (pc' := 35) (ls' := [some (.ref r0), some (.int (iI x1))]) (st' := [.ref r0, .int (iI x1)]) dX1_setSuffixes_34 (fun _ _ => rfl) ?_
  obtain ⟨hK1, h⟩ := h
  refine cq_getI dX1_setSuffixes_35 rfl (by decide) rfl (by unfold plK; decide) hK1 ?_
  obtain ⟨h1, h2⟩ := h
  refine cq_icmp (t := 89) dX1_setSuffixes_38 (by decide) (d_ge hx1 (hRc.1 _ _)) (fun q => ?_) (fun q => ?_)
  · have h := h1 q
    exact cq_vret dX1_setSuffixes_89 rfl h
  · have h := h2 (Int.not_le.mp q)
    refine cq_g (pc' := 42) (ls' := [some (.ref r0), some (.int (iI x1))]) (st' := [.ref r0]) dX1_setSuffixes_41 (fun _ _ => rfl) ?_
    obtain ⟨hK2, b3, hP, h⟩ := h
    refine cq_getP dX1_setSuffixes_42 rfl (by decide) rfl (by unfold plK; decide) hK2 hP ?_
    refine cq_g (pc' := 46) (ls' := [some (.ref r0), some (.int (iI x1))]) (st' := [.int (iI x1), .ref b3]) dX1_setSuffixes_45 (fun _ _ => rfl) ?_
    obtain ⟨hK4, hx5, b6, hb7, h⟩ := h
    refine cq_call (th := false) (rest := []) (ls2 := [some (.ref b3), some (.int (iI x1))]) (pc' := 49) dX1_setSuffixes_46 (fun _ _ => ex_calV rfl (by decide)) rfl (Nat.le_of_ble_eq_true rfl) (Nat.le_of_ble_eq_true rfl) (Nat.le_of_ble_eq_true rfl) (cr_rcv rfl rfl (by decide) hK4) rfl rfl rfl (fun q => nomatch q) (t163 (x := x1) hK4 hx5 ?_)
    rw [hb7]
    show CW g B O 13 49 [some (.ref r0), some (.int (iI x1))] [.ref b6] c Q
    obtain ⟨hK8, h⟩ := h
    refine cq_chk dX1_setSuffixes_49 rfl (by decide) hK8 ?_
    obtain ⟨hK9, h⟩ := h
    refine cq_getI dX1_setSuffixes_52 rfl (by decide) rfl (by unfold plK; decide) hK9 ?_
    obtain ⟨h1, h2⟩ := h
    refine cq_if (t := 83) dX1_setSuffixes_55 (by decide) (d_ne (hRc.1 _ _) (by decide)) (fun q => ?_) (fun q => ?_)
    · have h := h1 q
      exact h
    · have h := h2 (Decidable.of_not_not q)
      refine cq_g (pc' := 59) (ls' := [some (.ref r0), some (.int (iI x1))]) (st' := [.ref r0]) dX1_setSuffixes_58 (fun _ _ => rfl) ?_
      obtain ⟨hK10, b11, hP, h⟩ := h
      refine cq_getP dX1_setSuffixes_59 rfl (by decide) rfl (by unfold plK; decide) hK10 hP ?_
      refine cq_g (pc' := 63) (ls' := [some (.ref r0), some (.int (iI x1))]) (st' := [.int (iI x1), .ref b11]) dX1_setSuffixes_62 (fun _ _ => rfl) ?_
      obtain ⟨hK12, hx13, b14, hb15, h⟩ := h
      refine cq_call (th := false) (rest := []) (ls2 := [some (.ref b11), some (.int (iI x1))]) (pc' := 66) dX1_setSuffixes_63 (fun _ _ => ex_calV rfl (by decide)) rfl (Nat.le_of_ble_eq_true rfl) (Nat.le_of_ble_eq_true rfl) (Nat.le_of_ble_eq_true rfl) (cr_rcv rfl rfl (by decide) hK12) rfl rfl rfl (fun q => nomatch q) (t163 (x := x1) hK12 hx13 ?_)
      rw [hb15]
      show CW g B O 13 66 [some (.ref r0), some (.int (iI x1))] [.ref b14] c Q
      obtain ⟨hK16, h⟩ := h
      refine cq_chk dX1_setSuffixes_66 rfl (by decide) hK16 ?_
      obtain ⟨hK17, b18, hP, h⟩ := h
      refine cq_getP dX1_setSuffixes_69 rfl (by decide) rfl (by unfold plK; decide) hK17 hP ?_
      obtain ⟨hK19, h1, h2⟩ := h
      refine cq_call (th := false) (rest := []) (ls2 := [some (.ref b18)]) (pc' := 75) dX1_setSuffixes_72 (fun _ _ => ex_calV rfl (by decide)) rfl (Nat.le_of_ble_eq_true rfl) (Nat.le_of_ble_eq_true rfl) (Nat.le_of_ble_eq_true rfl) (cr_rcv rfl rfl (by decide) hK19) rfl rfl rfl (fun q => nomatch q) (t55 hK19 (fun q => ?_) (fun q => ?_))
      · have h := h1 q
        show CW g B O 13 75 [some (.ref r0), some (.int (iI x1))] [.int (iI 1)] c Q
        refine cq_if (t := 83) dX1_setSuffixes_75 (by decide) (d_ne (by decide) (by decide)) (fun _ => ?_) (fun q => absurd (by decide) q)
        exact h
      · have h := h2 q
        show CW g B O 13 75 [some (.ref r0), some (.int (iI x1))] [.int (iI 0)] c Q
        refine cq_if (t := 83) dX1_setSuffixes_75 (by decide) (d_ne (by decide) (by decide)) (fun q => absurd q (by decide)) (fun _ => ?_)
        refine cq_g (pc' := 79) (ls' := [some (.ref r0), some (.int (iI x1))]) (st' := [.ref r0]) dX1_setSuffixes_78 (fun _ _ => rfl) ?_
        refine cq_g (pc' := 80) (ls' := [some (.ref r0), some (.int (iI x1))]) (st' := [.int (iI x1), .ref r0]) dX1_setSuffixes_79 (fun _ _ => rfl) ?_
        obtain ⟨hK20, h⟩ := h
        exact cq_call (th := false) (rest := []) (ls2 := [some (.ref r0), some (.int (iI x1)), none, none, none]) (pc' := 83) dX1_setSuffixes_80 (fun _ _ => ex_calV rfl (by decide)) rfl (Nat.le_of_ble_eq_true rfl) (Nat.le_of_ble_eq_true rfl) (Nat.le_of_ble_eq_true rfl) (cr_rcv rfl rfl (by decide) hK20) rfl rfl rfl (fun q => nomatch q) h
theorem c13_83 {c : CS} {Q : Rs → CS → Prop} {r0 : Nat} {x1 : Int}
    (h : ((-2147483648 : Int) ≤ x1 + 1 ∧ x1 + 1 ≤ 2147483647) ∧ CW g B O 13 33 [some (.ref r0), some (.int (iI (x1 + 1)))] [] c Q) (hx1 : (-2147483648 : Int) ≤ x1 ∧ x1 ≤ 2147483647 := by omega) :
    CW g B O 13 83 [some (.ref r0), some (.int (iI x1))] [] c Q := by
  refine cq_R (fun hRc => ?_)
  obtain ⟨hr1, h⟩ := h
  refine cq_inc (ls' := [some (.ref r0), some (.int (iI (x1 + 1)))]) dX1_setSuffixes_83 rfl (Nat.le_of_ble_eq_true rfl) rfl ?_
  refine cq_goto (t := 33) dX1_setSuffixes_86 (by decide) ?_
  exact h
theorem c14_0 {c : CS} {Q : Rs → CS → Prop} {r0 : Nat} {x1 : Int} {l2 : Option Value} {l3 : Option Value} {l4 : Option Value}
    (h : yK c r0 = 3 ∧ ∃ b2, yP c r0 0 = some b2 ∧ (yK c b2 = 1 ∧ ((0 : Int) ≤ x1 ∧ x1 < (yE c b2).length) ∧ ∃ b5, (yE c b2).getD (x1).toNat 0 = b5 ∧ (yK c b5 = 6 ∧ ((-2147483648 : Int) ≤ x1 + 1 ∧ x1 + 1 ≤ 2147483647) ∧ CW g B O 14 19 [some (.ref r0), some (.int (iI x1)), some (.ref b5), some (.int (iI 1)), some (.int (iI (x1 + 1)))] [] c Q))) (hx1 : (-2147483648 : Int) ≤ x1 ∧ x1 ≤ 2147483647 := by omega) :
    CW g B O 14 0 [some (.ref r0), some (.int (iI x1)), l2, l3, l4] [] c Q := by
  refine cq_R (fun hRc => ?_)
  refine cq_g (pc' := 1) (ls' := [some (.ref r0), some (.int (iI x1)), l2, l3, l4]) (st' := [.ref r0]) dX1_markAlike_0 (fun _ _ => rfl) ?_
  obtain ⟨hK1, b2, hP, h⟩ := h
  refine cq_getP dX1_markAlike_1 rfl (by decide) rfl (by unfold plK; decide) hK1 hP ?_
  refine cq_g (pc' := 5) (ls' := [some (.ref r0), some (.int (iI x1)), l2, l3, l4]) (st' := [.int (iI x1), .ref b2]) dX1_markAlike_4 (fun _ _ => rfl) ?_
  obtain ⟨hK3, hx4, b5, hb6, h⟩ := h
  refine cq_call (th := false) (rest := []) (ls2 := [some (.ref b2), some (.int (iI x1))]) (pc' := 8) dX1_markAlike_5 (fun _ _ => ex_calV rfl (by decide)) rfl (Nat.le_of_ble_eq_true rfl) (Nat.le_of_ble_eq_true rfl) (Nat.le_of_ble_eq_true rfl) (cr_rcv rfl rfl (by decide) hK3) rfl rfl rfl (fun q => nomatch q) (t163 (x := x1) hK3 hx4 ?_)
  rw [hb6]
  show CW g B O 14 8 [some (.ref r0), some (.int (iI x1)), l2, l3, l4] [.ref b5] c Q
  obtain ⟨hK7, h⟩ := h
  refine cq_chk dX1_markAlike_8 rfl (by decide) hK7 ?_
  refine cq_g (pc' := 12) (ls' := [some (.ref r0), some (.int (iI x1)), some (.ref b5), l3, l4]) (st' := []) dX1_markAlike_11 (fun _ _ => rfl) ?_
  refine cq_ic dX1_markAlike_12 ?_
  refine cq_g (pc' := 14) (ls' := [some (.ref r0), some (.int (iI x1)), some (.ref b5), some (.int (iI 1)), l4]) (st' := []) dX1_markAlike_13 (fun _ _ => rfl) ?_
  refine cq_g (pc' := 15) (ls' := [some (.ref r0), some (.int (iI x1)), some (.ref b5), some (.int (iI 1)), l4]) (st' := [.int (iI x1)]) dX1_markAlike_14 (fun _ _ => rfl) ?_
  refine cq_ic dX1_markAlike_15 ?_
  obtain ⟨hr8, h⟩ := h
  refine cq_add dX1_markAlike_16 ?_
  refine cq_g (pc' := 19) (ls' := [some (.ref r0), some (.int (iI x1)), some (.ref b5), some (.int (iI 1)), some (.int (iI (x1 + 1)))]) (st' := []) dX1_markAlike_17 (fun _ _ => rfl) ?_
  exact h
theorem c14_19 {c : CS} {Q : Rs → CS → Prop} {r0 : Nat} {l1 : Option Value} {r2 : Nat} {x3 : Int} {x4 : Int}
    (h : yK c r0 = 3 ∧ (yI c r0 1 ≤ x4 → Q (Sum.inl none) c) ∧ (x4 < yI c r0 1 → yK c r0 = 3 ∧ ∃ b3, yP c r0 0 = some b3 ∧ (yK c b3 = 1 ∧ ((0 : Int) ≤ x4 ∧ x4 < (yE c b3).length) ∧ ∃ b6, (yE c b3).getD (x4).toNat 0 = b6 ∧ (yK c b6 = 6 ∧ yK c b6 = 6 ∧ ∃ b10, yP c b6 5 = some b10 ∧ (yK c r2 = 6 ∧ ∃ b12, yP c r2 5 = some b12 ∧ (yK c b10 = 7 ∧ yK c b12 = 7 ∧ (yT c b10 = yT c b12 → yK c r2 = 6 ∧ (∀ d15, d15 = wI c r2 6 1 → ((-2147483648 : Int) ≤ x3 + 1 ∧ x3 + 1 ≤ 2147483647) ∧ yK d15 r0 = 3 ∧ ∃ b19, yP d15 r0 0 = some b19 ∧ (yK d15 b19 = 1 ∧ ((0 : Int) ≤ x4 ∧ x4 < (yE d15 b19).length) ∧ ∃ b22, (yE d15 b19).getD (x4).toNat 0 = b22 ∧ (yK d15 b22 = 6 ∧ yK d15 b22 = 6 ∧ (∀ d25, d25 = wI d15 b22 6 (x3 + 1) → CW g B O 14 77 [some (.ref r0), l1, some (.ref r2), some (.int (iI (x3 + 1))), some (.int (iI x4))] [] d25 Q))))) ∧ (¬ yT c b10 = yT c b12 → CW g B O 14 77 [some (.ref r0), l1, some (.ref r2), some (.int (iI x3)), some (.int (iI x4))] [] c Q))))))) (hx3 : (-2147483648 : Int) ≤ x3 ∧ x3 ≤ 2147483647 := by omega) (hx4 : (-2147483648 : Int) ≤ x4 ∧ x4 ≤ 2147483647 := by omega) :
    CW g B O 14 19 [some (.ref r0), l1, some (.ref r2), some (.int (iI x3)), some (.int (iI x4))] [] c Q := by
  refine cq_R (fun hRc => ?_)
  refine cq_g (pc' := 21) (ls' := [some (.ref r0), l1, some (.ref r2), some (.int (iI x3)), some (.int (iI x4))]) (st' := [.int (iI x4)]) dX1_markAlike_19 (fun _ _ => rfl) ?_
  refine cq_g (pc' := 22) (ls' := [some (.ref r0), l1, some (.ref r2), some (.int (iI x3)), some (.int (iI x4))]) (st' := [.ref r0, .int (iI x4)]) dX1_markAlike_21 (fun _ _ => rfl) ?_
  obtain ⟨hK1, h⟩ := h
  refine cq_getI dX1_markAlike_22 rfl (by decide) rfl (by unfold plK; decide) hK1 ?_
  obtain ⟨h1, h2⟩ := h
  refine cq_icmp (t := 83) dX1_markAlike_25 (by decide) (d_ge hx4 (hRc.1 _ _)) (fun q => ?_) (fun q => ?_)
  · have h := h1 q
    exact cq_vret dX1_markAlike_83 rfl h
  · have h := h2 (Int.not_le.mp q)
    refine cq_g (pc' := 29) (ls' := [some (.ref r0), l1, some (.ref r2), some (.int (iI x3)), some (.int (iI x4))]) (st' := [.ref r0]) dX1_markAlike_28 (fun _ _ => rfl) ?_
    obtain ⟨hK2, b3, hP, h⟩ := h
    refine cq_getP dX1_markAlike_29 rfl (by decide) rfl (by unfold plK; decide) hK2 hP ?_
    refine cq_g (pc' := 34) (ls' := [some (.ref r0), l1, some (.ref r2), some (.int (iI x3)), some (.int (iI x4))]) (st' := [.int (iI x4), .ref b3]) dX1_markAlike_32 (fun _ _ => rfl) ?_
    obtain ⟨hK4, hx5, b6, hb7, h⟩ := h
    refine cq_call (th := false) (rest := []) (ls2 := [some (.ref b3), some (.int (iI x4))]) (pc' := 37) dX1_markAlike_34 (fun _ _ => ex_calV rfl (by decide)) rfl (Nat.le_of_ble_eq_true rfl) (Nat.le_of_ble_eq_true rfl) (Nat.le_of_ble_eq_true rfl) (cr_rcv rfl rfl (by decide) hK4) rfl rfl rfl (fun q => nomatch q) (t163 (x := x4) hK4 hx5 ?_)
    rw [hb7]
    show CW g B O 14 37 [some (.ref r0), l1, some (.ref r2), some (.int (iI x3)), some (.int (iI x4))] [.ref b6] c Q
    obtain ⟨hK8, h⟩ := h
    refine cq_chk dX1_markAlike_37 rfl (by decide) hK8 ?_
    obtain ⟨hK9, b10, hP, h⟩ := h
    refine cq_getP dX1_markAlike_40 rfl (by decide) rfl (by unfold plK; decide) hK9 hP ?_
    refine cq_g (pc' := 44) (ls' := [some (.ref r0), l1, some (.ref r2), some (.int (iI x3)), some (.int (iI x4))]) (st' := [.ref r2, .ref b10]) dX1_markAlike_43 (fun _ _ => rfl) ?_
    obtain ⟨hK11, b12, hP, h⟩ := h
    refine cq_getP dX1_markAlike_44 rfl (by decide) rfl (by unfold plK; decide) hK11 hP ?_
    obtain ⟨hK13, hK14, h1, h2⟩ := h
    refine cq_call (th := false) (rest := []) (ls2 := [some (.ref b10), some (.ref b12)]) (pc' := 50) dX1_markAlike_47 (fun _ _ => ex_calV rfl (by decide)) rfl (Nat.le_of_ble_eq_true rfl) (Nat.le_of_ble_eq_true rfl) (Nat.le_of_ble_eq_true rfl) (cr_rcv rfl rfl (by decide) hK13) rfl rfl rfl (fun q => nomatch q) (t65 hK13 hK14 (fun q => ?_) (fun q => ?_))
    · have h := h1 q
      show CW g B O 14 50 [some (.ref r0), l1, some (.ref r2), some (.int (iI x3)), some (.int (iI x4))] [.int (iI 1)] c Q
      refine cq_if (t := 77) dX1_markAlike_50 (by decide) (d_eq (by decide) (by decide)) (fun q => absurd q (by decide)) (fun _ => ?_)
      refine cq_g (pc' := 54) (ls' := [some (.ref r0), l1, some (.ref r2), some (.int (iI x3)), some (.int (iI x4))]) (st' := [.ref r2]) dX1_markAlike_53 (fun _ _ => rfl) ?_
      refine cq_ic dX1_markAlike_54 ?_
      obtain ⟨hK16, h⟩ := h
      refine cq_putI dX1_markAlike_55 rfl (by decide) (Or.inl rfl) rfl (by unfold plK; decide) (Or.inl rfl) (by decide) hK16 ?_
      generalize ed15 : wI c r2 6 1 = d15
      replace h := h _ ed15.symm
      refine cq_R (fun hRd15 => ?_)
      obtain ⟨hr17, h⟩ := h
      refine cq_inc (ls' := [some (.ref r0), l1, some (.ref r2), some (.int (iI (x3 + 1))), some (.int (iI x4))]) dX1_markAlike_58 rfl (Nat.le_of_ble_eq_true rfl) rfl ?_
      refine cq_g (pc' := 62) (ls' := [some (.ref r0), l1, some (.ref r2), some (.int (iI (x3 + 1))), some (.int (iI x4))]) (st' := [.ref r0]) dX1_markAlike_61 (fun _ _ => rfl) ?_
      obtain ⟨hK18, b19, hP, h⟩ := h
      refine cq_getP dX1_markAlike_62 rfl (by decide) rfl (by unfold plK; decide) hK18 hP ?_
      refine cq_g (pc' := 67) (ls' := [some (.ref r0), l1, some (.ref r2), some (.int (iI (x3 + 1))), some (.int (iI x4))]) (st' := [.int (iI x4), .ref b19]) dX1_markAlike_65 (fun _ _ => rfl) ?_
      obtain ⟨hK20, hx21, b22, hb23, h⟩ := h
      refine cq_call (th := false) (rest := []) (ls2 := [some (.ref b19), some (.int (iI x4))]) (pc' := 70) dX1_markAlike_67 (fun _ _ => ex_calV rfl (by decide)) rfl (Nat.le_of_ble_eq_true rfl) (Nat.le_of_ble_eq_true rfl) (Nat.le_of_ble_eq_true rfl) (cr_rcv rfl rfl (by decide) hK20) rfl rfl rfl (fun q => nomatch q) (t163 (x := x4) hK20 hx21 ?_)
      rw [hb23]
      show CW g B O 14 70 [some (.ref r0), l1, some (.ref r2), some (.int (iI (x3 + 1))), some (.int (iI x4))] [.ref b22] d15 Q
      obtain ⟨hK24, h⟩ := h
      refine cq_chk dX1_markAlike_70 rfl (by decide) hK24 ?_
      refine cq_g (pc' := 74) (ls' := [some (.ref r0), l1, some (.ref r2), some (.int (iI (x3 + 1))), some (.int (iI x4))]) (st' := [.int (iI (x3 + 1)), .ref b22]) dX1_markAlike_73 (fun _ _ => rfl) ?_
      obtain ⟨hK26, h⟩ := h
      refine cq_putI dX1_markAlike_74 rfl (by decide) (Or.inl rfl) rfl (by unfold plK; decide) (Or.inl rfl) hr17 hK26 ?_
      generalize ed25 : wI d15 b22 6 (x3 + 1) = d25
      replace h := h _ ed25.symm
      refine cq_R (fun hRd25 => ?_)
      exact h
    · have h := h2 q
      show CW g B O 14 50 [some (.ref r0), l1, some (.ref r2), some (.int (iI x3)), some (.int (iI x4))] [.int (iI 0)] c Q
      refine cq_if (t := 77) dX1_markAlike_50 (by decide) (d_eq (by decide) (by decide)) (fun _ => ?_) (fun q => absurd rfl q)
      exact h
theorem c14_77 {c : CS} {Q : Rs → CS → Prop} {r0 : Nat} {l1 : Option Value} {r2 : Nat} {x3 : Int} {x4 : Int}
    (h : ((-2147483648 : Int) ≤ x4 + 1 ∧ x4 + 1 ≤ 2147483647) ∧ CW g B O 14 19 [some (.ref r0), l1, some (.ref r2), some (.int (iI x3)), some (.int (iI (x4 + 1)))] [] c Q) (hx3 : (-2147483648 : Int) ≤ x3 ∧ x3 ≤ 2147483647 := by omega) (hx4 : (-2147483648 : Int) ≤ x4 ∧ x4 ≤ 2147483647 := by omega) :
    CW g B O 14 77 [some (.ref r0), l1, some (.ref r2), some (.int (iI x3)), some (.int (iI x4))] [] c Q := by
  refine cq_R (fun hRc => ?_)
  obtain ⟨hr1, h⟩ := h
  refine cq_inc (ls' := [some (.ref r0), l1, some (.ref r2), some (.int (iI x3)), some (.int (iI (x4 + 1)))]) dX1_markAlike_77 rfl (Nat.le_of_ble_eq_true rfl) rfl ?_
  refine cq_goto (t := 19) dX1_markAlike_80 (by decide) ?_
  exact h
theorem c15_0 {c : CS} {Q : Rs → CS → Prop} {r0 : Nat} {l1 : Option Value} {l2 : Option Value} {l3 : Option Value} {l4 : Option Value}
    (h : yK c r0 = 3 ∧ (∀ d1, d1 = wI c r0 5 0 → CW g B O 15 7 [some (.ref r0), some (.int (iI 0)), l2, l3, l4] [] d1 Q))  :
    CW g B O 15 0 [some (.ref r0), l1, l2, l3, l4] [] c Q := by
  refine cq_R (fun hRc => ?_)
  refine cq_g (pc' := 1) (ls' := [some (.ref r0), l1, l2, l3, l4]) (st' := [.ref r0]) dX1_findMissing_0 (fun _ _ => rfl) ?_
  refine cq_ic dX1_findMissing_1 ?_
  obtain ⟨hK2, h⟩ := h
  refine cq_putI dX1_findMissing_2 rfl (by decide) (Or.inl rfl) rfl (by unfold plK; decide) (Or.inl rfl) (by decide) hK2 ?_
  generalize ed1 : wI c r0 5 0 = d1
  replace h := h _ ed1.symm
  refine cq_R (fun hRd1 => ?_)
  refine cq_ic dX1_findMissing_5 ?_
  refine cq_g (pc' := 7) (ls' := [some (.ref r0), some (.int (iI 0)), l2, l3, l4]) (st' := []) dX1_findMissing_6 (fun _ _ => rfl) ?_
  exact h
theorem c15_7 {c : CS} {Q : Rs → CS → Prop} {r0 : Nat} {x1 : Int} {l2 : Option Value} {l3 : Option Value} {l4 : Option Value}
    (h : yK c r0 = 3 ∧ (yI c r0 1 ≤ x1 → Q (Sum.inl none) c) ∧ (x1 < yI c r0 1 → yK c r0 = 3 ∧ ∃ b3, yP c r0 0 = some b3 ∧ (yK c b3 = 1 ∧ ((0 : Int) ≤ x1 ∧ x1 < (yE c b3).length) ∧ ∃ b6, (yE c b3).getD (x1).toNat 0 = b6 ∧ (yK c b6 = 6 ∧ yK c b6 = 6 ∧ ∃ b10, yP c b6 0 = some b10 ∧ (CW g B O 15 32 [some (.ref r0), some (.int (iI x1)), some (.ref b10), some (.int (iI 0)), l4] [] c Q))))) (hx1 : (-2147483648 : Int) ≤ x1 ∧ x1 ≤ 2147483647 := by omega) :
    CW g B O 15 7 [some (.ref r0), some (.int (iI x1)), l2, l3, l4] [] c Q := by
  refine cq_R (fun hRc => ?_)
  refine cq_g (pc' := 8) (ls' := [some (.ref r0), some (.int (iI x1)), l2, l3, l4]) (st' := [.int (iI x1)]) dX1_findMissing_7 (fun _ _ => rfl) ?_
  refine cq_g (pc' := 9) (ls' := [some (.ref r0), some (.int (iI x1)), l2, l3, l4]) (st' := [.ref r0, .int (iI x1)]) dX1_findMissing_8 (fun _ _ => rfl) ?_
  obtain ⟨hK1, h⟩ := h
  refine cq_getI dX1_findMissing_9 rfl (by decide) rfl (by unfold plK; decide) hK1 ?_
  obtain ⟨h1, h2⟩ := h
  refine cq_icmp (t := 120) dX1_findMissing_12 (by decide) (d_ge hx1 (hRc.1 _ _)) (fun q => ?_) (fun q => ?_)
  · have h := h1 q
    exact cq_vret dX1_findMissing_120 rfl h
  · have h := h2 (Int.not_le.mp q)
    refine cq_g (pc' := 16) (ls' := [some (.ref r0), some (.int (iI x1)), l2, l3, l4]) (st' := [.ref r0]) dX1_findMissing_15 (fun _ _ => rfl) ?_
    obtain ⟨hK2, b3, hP, h⟩ := h
    refine cq_getP dX1_findMissing_16 rfl (by decide) rfl (by unfold plK; decide) hK2 hP ?_
    refine cq_g (pc' := 20) (ls' := [some (.ref r0), some (.int (iI x1)), l2, l3, l4]) (st' := [.int (iI x1), .ref b3]) dX1_findMissing_19 (fun _ _ => rfl) ?_
    obtain ⟨hK4, hx5, b6, hb7, h⟩ := h
    refine cq_call (th := false) (rest := []) (ls2 := [some (.ref b3), some (.int (iI x1))]) (pc' := 23) dX1_findMissing_20 (fun _ _ => ex_calV rfl (by decide)) rfl (Nat.le_of_ble_eq_true rfl) (Nat.le_of_ble_eq_true rfl) (Nat.le_of_ble_eq_true rfl) (cr_rcv rfl rfl (by decide) hK4) rfl rfl rfl (fun q => nomatch q) (t163 (x := x1) hK4 hx5 ?_)
    rw [hb7]
    show CW g B O 15 23 [some (.ref r0), some (.int (iI x1)), l2, l3, l4] [.ref b6] c Q
    obtain ⟨hK8, h⟩ := h
    refine cq_chk dX1_findMissing_23 rfl (by decide) hK8 ?_
    obtain ⟨hK9, b10, hP, h⟩ := h
    refine cq_getP dX1_findMissing_26 rfl (by decide) rfl (by unfold plK; decide) hK9 hP ?_
    refine cq_g (pc' := 30) (ls' := [some (.ref r0), some (.int (iI x1)), some (.ref b10), l3, l4]) (st' := []) dX1_findMissing_29 (fun _ _ => rfl) ?_
    refine cq_ic dX1_findMissing_30 ?_
    refine cq_g (pc' := 32) (ls' := [some (.ref r0), some (.int (iI x1)), some (.ref b10), some (.int (iI 0)), l4]) (st' := []) dX1_findMissing_31 (fun _ _ => rfl) ?_
    exact h
theorem c15_32 {c : CS} {Q : Rs → CS → Prop} {r0 : Nat} {x1 : Int} {r2 : Nat} {x3 : Int} {l4 : Option Value}
    (h : (4 ≤ x3 → ((-2147483648 : Int) ≤ x1 + 1 ∧ x1 + 1 ≤ 2147483647) ∧ CW g B O 15 7 [some (.ref r0), some (.int (iI (x1 + 1))), some (.ref r2), some (.int (iI x3)), l4] [] c Q) ∧ (x3 < 4 → yK c r2 = 2 ∧ ((-2147483648 : Int) ≤ (yI c r2 1) * 4 ∧ (yI c r2 1) * 4 ≤ 2147483647) ∧ ((-2147483648 : Int) ≤ ((yI c r2 1) * 4) + x3 ∧ ((yI c r2 1) * 4) + x3 ≤ 2147483647) ∧ ((0 : Int) ≤ ((yI c r2 1) * 4) + x3 ∧ ((yI c r2 1) * 4) + x3 < 20) ∧ ((need (((yI c r2 1) * 4) + x3).toNat).toInt < 0 → CW g B O 15 108 [some (.ref r0), some (.int (iI x1)), some (.ref r2), some (.int (iI x3)), some (.int (iI ((need (((yI c r2 1) * 4) + x3).toNat).toInt)))] [] c Q) ∧ (0 ≤ (need (((yI c r2 1) * 4) + x3).toNat).toInt → yK c r2 = 2 ∧ CW g B O 2 0 [some (.ref r2), some (.int (iI ((need (((yI c r2 1) * 4) + x3).toNat).toInt)))] [] c (CK g B O 15 62 [some (.ref r0), some (.int (iI x1)), some (.ref r2), some (.int (iI x3)), some (.int (iI ((need (((yI c r2 1) * 4) + x3).toNat).toInt)))] [] Q false)))) (hx1 : (-2147483648 : Int) ≤ x1 ∧ x1 ≤ 2147483647 := by omega) (hx3 : (-2147483648 : Int) ≤ x3 ∧ x3 ≤ 2147483647 := by omega) :
    CW g B O 15 32 [some (.ref r0), some (.int (iI x1)), some (.ref r2), some (.int (iI x3)), l4] [] c Q := by
  refine cq_R (fun hRc => ?_)
  refine cq_g (pc' := 33) (ls' := [some (.ref r0), some (.int (iI x1)), some (.ref r2), some (.int (iI x3)), l4]) (st' := [.int (iI x3)]) dX1_findMissing_32 (fun _ _ => rfl) ?_
  refine cq_ic dX1_findMissing_33 ?_
  obtain ⟨h1, h2⟩ := h
  refine cq_icmp (t := 114) dX1_findMissing_34 (by decide) (d_ge hx3 (by decide)) (fun q => ?_) (fun q => ?_)
  · have h := h1 q
    obtain ⟨hr1, h⟩ := h
    refine cq_inc (ls' := [some (.ref r0), some (.int (iI (x1 + 1))), some (.ref r2), some (.int (iI x3)), l4]) dX1_findMissing_114 rfl (Nat.le_of_ble_eq_true rfl) rfl ?_
    refine cq_goto (t := 7) dX1_findMissing_117 (by decide) ?_
    exact h
  · have h := h2 (Int.not_le.mp q)
    refine cq_gets dX1_findMissing_37 rfl ?_
    refine cq_g (pc' := 41) (ls' := [some (.ref r0), some (.int (iI x1)), some (.ref r2), some (.int (iI x3)), l4]) (st' := [.ref r2, .ref (g 0)]) dX1_findMissing_40 (fun _ _ => rfl) ?_
    obtain ⟨hK2, h⟩ := h
    refine cq_getI dX1_findMissing_41 rfl (by decide) rfl (by unfold plK; decide) hK2 ?_
    refine cq_ic dX1_findMissing_44 ?_
    obtain ⟨hr3, h⟩ := h
    refine cq_mul dX1_findMissing_45 ?_
    refine cq_g (pc' := 47) (ls' := [some (.ref r0), some (.int (iI x1)), some (.ref r2), some (.int (iI x3)), l4]) (st' := [.int (iI x3), .int (iI ((yI c r2 1) * 4)), .ref (g 0)]) dX1_findMissing_46 (fun _ _ => rfl) ?_
    obtain ⟨hr4, h⟩ := h
    refine cq_add dX1_findMissing_47 ?_
    obtain ⟨hx5, h⟩ := h
    refine cq_need dX1_findMissing_48 hx5 ?_
    refine cq_g (pc' := 51) (ls' := [some (.ref r0), some (.int (iI x1)), some (.ref r2), some (.int (iI x3)), some (.int (iI ((need (((yI c r2 1) * 4) + x3).toNat).toInt)))]) (st' := []) dX1_findMissing_49 (fun _ _ => rfl) ?_
    refine cq_g (pc' := 53) (ls' := [some (.ref r0), some (.int (iI x1)), some (.ref r2), some (.int (iI x3)), some (.int (iI ((need (((yI c r2 1) * 4) + x3).toNat).toInt)))]) (st' := [.int (iI ((need (((yI c r2 1) * 4) + x3).toNat).toInt))]) dX1_findMissing_51 (fun _ _ => rfl) ?_
    obtain ⟨h1, h2⟩ := h
    refine cq_if (t := 108) dX1_findMissing_53 (by decide) (d_lt (iI_R _) (by decide)) (fun q => ?_) (fun q => ?_)
    · have h := h1 q
      exact h
    · have h := h2 (Int.not_lt.mp q)
      refine cq_g (pc' := 57) (ls' := [some (.ref r0), some (.int (iI x1)), some (.ref r2), some (.int (iI x3)), some (.int (iI ((need (((yI c r2 1) * 4) + x3).toNat).toInt)))]) (st' := [.ref r2]) dX1_findMissing_56 (fun _ _ => rfl) ?_
      refine cq_g (pc' := 59) (ls' := [some (.ref r0), some (.int (iI x1)), some (.ref r2), some (.int (iI x3)), some (.int (iI ((need (((yI c r2 1) * 4) + x3).toNat).toInt)))]) (st' := [.int (iI ((need (((yI c r2 1) * 4) + x3).toNat).toInt)), .ref r2]) dX1_findMissing_57 (fun _ _ => rfl) ?_
      obtain ⟨hK6, h⟩ := h
      exact cq_call (th := false) (rest := []) (ls2 := [some (.ref r2), some (.int (iI ((need (((yI c r2 1) * 4) + x3).toNat).toInt)))]) (pc' := 62) dX1_findMissing_59 (fun _ _ => ex_calV rfl (by decide)) rfl (Nat.le_of_ble_eq_true rfl) (Nat.le_of_ble_eq_true rfl) (Nat.le_of_ble_eq_true rfl) (cr_rcv rfl rfl (by decide) hK6) rfl rfl rfl (fun q => nomatch q) h
theorem c15_62 {c : CS} {Q : Rs → CS → Prop} {r0 : Nat} {x1 : Int} {r2 : Nat} {x3 : Int} {x4 : Int} {u0 : Int}
    (h : (¬ u0 = 0 → CW g B O 15 108 [some (.ref r0), some (.int (iI x1)), some (.ref r2), some (.int (iI x3)), some (.int (iI x4))] [] c Q) ∧ (u0 = 0 → yK c r0 = 3 ∧ (96 ≤ yI c r0 5 → CW g B O 15 108 [some (.ref r0), some (.int (iI x1)), some (.ref r2), some (.int (iI x3)), some (.int (iI x4))] [] c Q) ∧ (yI c r0 5 < 96 → yK c r0 = 3 ∧ ∃ b3, yP c r0 3 = some b3 ∧ (yK c r0 = 3 ∧ yK c r2 = 2 ∧ yK c b3 = 101 ∧ ((0 : Int) ≤ yI c r0 5 ∧ yI c r0 5 < yI c b3 (-1)) ∧ (∀ d8, d8 = wI c b3 (yI c r0 5) (yI c r2 0) → yK d8 r0 = 3 ∧ ∃ b10, yP d8 r0 4 = some b10 ∧ (yK d8 r0 = 3 ∧ yK d8 b10 = 101 ∧ ((0 : Int) ≤ yI d8 r0 5 ∧ yI d8 r0 5 < yI d8 b10 (-1)) ∧ (∀ d14, d14 = wI d8 b10 (yI d8 r0 5) x4 → yK d14 r0 = 3 ∧ ((-2147483648 : Int) ≤ (yI d14 r0 5) + 1 ∧ (yI d14 r0 5) + 1 ≤ 2147483647) ∧ yK d14 r0 = 3 ∧ (∀ d17, d17 = wI d14 r0 5 ((yI d14 r0 5) + 1) → CW g B O 15 108 [some (.ref r0), some (.int (iI x1)), some (.ref r2), some (.int (iI x3)), some (.int (iI x4))] [] d17 Q)))))))) (hx1 : (-2147483648 : Int) ≤ x1 ∧ x1 ≤ 2147483647 := by omega) (hx3 : (-2147483648 : Int) ≤ x3 ∧ x3 ≤ 2147483647 := by omega) (hx4 : (-2147483648 : Int) ≤ x4 ∧ x4 ≤ 2147483647 := by omega) (hu0 : (-2147483648 : Int) ≤ u0 ∧ u0 ≤ 2147483647 := by omega) :
    CW g B O 15 62 [some (.ref r0), some (.int (iI x1)), some (.ref r2), some (.int (iI x3)), some (.int (iI x4))] [.int (iI u0)] c Q := by
  refine cq_R (fun hRc => ?_)
  obtain ⟨h1, h2⟩ := h
  refine cq_if (t := 108) dX1_findMissing_62 (by decide) (d_ne hu0 (by decide)) (fun q => ?_) (fun q => ?_)
  · have h := h1 q
    exact h
  · have h := h2 (Decidable.of_not_not q)
    refine cq_g (pc' := 66) (ls' := [some (.ref r0), some (.int (iI x1)), some (.ref r2), some (.int (iI x3)), some (.int (iI x4))]) (st' := [.ref r0]) dX1_findMissing_65 (fun _ _ => rfl) ?_
    obtain ⟨hK1, h⟩ := h
    refine cq_getI dX1_findMissing_66 rfl (by decide) rfl (by unfold plK; decide) hK1 ?_
    refine cq_bi dX1_findMissing_69 (by decide) ?_
    obtain ⟨h1, h2⟩ := h
    refine cq_icmp (t := 108) dX1_findMissing_71 (by decide) (d_ge (hRc.1 _ _) (by decide)) (fun q => ?_) (fun q => ?_)
    · have h := h1 q
      exact h
    · have h := h2 (Int.not_le.mp q)
      refine cq_g (pc' := 75) (ls' := [some (.ref r0), some (.int (iI x1)), some (.ref r2), some (.int (iI x3)), some (.int (iI x4))]) (st' := [.ref r0]) dX1_findMissing_74 (fun _ _ => rfl) ?_
      obtain ⟨hK2, b3, hP, h⟩ := h
      refine cq_getP dX1_findMissing_75 rfl (by decide) rfl (by unfold plK; decide) hK2 hP ?_
      refine cq_g (pc' := 79) (ls' := [some (.ref r0), some (.int (iI x1)), some (.ref r2), some (.int (iI x3)), some (.int (iI x4))]) (st' := [.ref r0, .ref b3]) dX1_findMissing_78 (fun _ _ => rfl) ?_
      obtain ⟨hK4, h⟩ := h
      refine cq_getI dX1_findMissing_79 rfl (by decide) rfl (by unfold plK; decide) hK4 ?_
      refine cq_g (pc' := 83) (ls' := [some (.ref r0), some (.int (iI x1)), some (.ref r2), some (.int (iI x3)), some (.int (iI x4))]) (st' := [.ref r2, .int (iI (yI c r0 5)), .ref b3]) dX1_findMissing_82 (fun _ _ => rfl) ?_
      obtain ⟨hK5, h⟩ := h
      refine cq_getI dX1_findMissing_83 rfl (by decide) rfl (by unfold plK; decide) hK5 ?_
      obtain ⟨hK7, hx6, h⟩ := h
      refine cq_iast dX1_findMissing_86 hK7 hx6 (hRc.1 _ _) ?_
      generalize ed8 : wI c b3 (yI c r0 5) (yI c r2 0) = d8
      replace h := h _ ed8.symm
      refine cq_R (fun hRd8 => ?_)
      refine cq_g (pc' := 88) (ls' := [some (.ref r0), some (.int (iI x1)), some (.ref r2), some (.int (iI x3)), some (.int (iI x4))]) (st' := [.ref r0]) dX1_findMissing_87 (fun _ _ => rfl) ?_
      obtain ⟨hK9, b10, hP, h⟩ := h
      refine cq_getP dX1_findMissing_88 rfl (by decide) rfl (by unfold plK; decide) hK9 hP ?_
      refine cq_g (pc' := 92) (ls' := [some (.ref r0), some (.int (iI x1)), some (.ref r2), some (.int (iI x3)), some (.int (iI x4))]) (st' := [.ref r0, .ref b10]) dX1_findMissing_91 (fun _ _ => rfl) ?_
      obtain ⟨hK11, h⟩ := h
      refine cq_getI dX1_findMissing_92 rfl (by decide) rfl (by unfold plK; decide) hK11 ?_
      refine cq_g (pc' := 97) (ls' := [some (.ref r0), some (.int (iI x1)), some (.ref r2), some (.int (iI x3)), some (.int (iI x4))]) (st' := [.int (iI x4), .int (iI (yI d8 r0 5)), .ref b10]) dX1_findMissing_95 (fun _ _ => rfl) ?_
      obtain ⟨hK13, hx12, h⟩ := h
      refine cq_iast dX1_findMissing_97 hK13 hx12 hx4 ?_
      generalize ed14 : wI d8 b10 (yI d8 r0 5) x4 = d14
      replace h := h _ ed14.symm
      refine cq_R (fun hRd14 => ?_)
      refine cq_g (pc' := 99) (ls' := [some (.ref r0), some (.int (iI x1)), some (.ref r2), some (.int (iI x3)), some (.int (iI x4))]) (st' := [.ref r0]) dX1_findMissing_98 (fun _ _ => rfl) ?_
      refine cq_g (pc' := 100) (ls' := [some (.ref r0), some (.int (iI x1)), some (.ref r2), some (.int (iI x3)), some (.int (iI x4))]) (st' := [.ref r0, .ref r0]) dX1_findMissing_99 (fun _ _ => rfl) ?_
      obtain ⟨hK15, h⟩ := h
      refine cq_getI dX1_findMissing_100 rfl (by decide) rfl (by unfold plK; decide) hK15 ?_
      refine cq_ic dX1_findMissing_103 ?_
      obtain ⟨hr16, h⟩ := h
      refine cq_add dX1_findMissing_104 ?_
      obtain ⟨hK18, h⟩ := h
      refine cq_putI dX1_findMissing_105 rfl (by decide) (Or.inl rfl) rfl (by unfold plK; decide) (Or.inl rfl) hr16 hK18 ?_
      generalize ed17 : wI d14 r0 5 ((yI d14 r0 5) + 1) = d17
      replace h := h _ ed17.symm
      refine cq_R (fun hRd17 => ?_)
      exact h
theorem c15_108 {c : CS} {Q : Rs → CS → Prop} {r0 : Nat} {x1 : Int} {r2 : Nat} {x3 : Int} {l4 : Option Value}
    (h : ((-2147483648 : Int) ≤ x3 + 1 ∧ x3 + 1 ≤ 2147483647) ∧ CW g B O 15 32 [some (.ref r0), some (.int (iI x1)), some (.ref r2), some (.int (iI (x3 + 1))), l4] [] c Q) (hx1 : (-2147483648 : Int) ≤ x1 ∧ x1 ≤ 2147483647 := by omega) (hx3 : (-2147483648 : Int) ≤ x3 ∧ x3 ≤ 2147483647 := by omega) :
    CW g B O 15 108 [some (.ref r0), some (.int (iI x1)), some (.ref r2), some (.int (iI x3)), l4] [] c Q := by
  refine cq_R (fun hRc => ?_)
  obtain ⟨hr1, h⟩ := h
  refine cq_inc (ls' := [some (.ref r0), some (.int (iI x1)), some (.ref r2), some (.int (iI (x3 + 1))), l4]) dX1_findMissing_108 rfl (Nat.le_of_ble_eq_true rfl) rfl ?_
  refine cq_goto (t := 32) dX1_findMissing_111 (by decide) ?_
  exact h
end Blk
