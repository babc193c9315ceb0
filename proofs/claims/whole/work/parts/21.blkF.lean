theorem b91_0 {g : Nat → Nat} {C S : Nat} {σ : PS} {Q : Rs → PS → Prop} {r0 : Nat}
    (h : ∃ n1 : Nat, 24 = nI n1 ∧ n1 ≤ 100000 ∧ zN σ + 1 ≤ C ∧ zS σ + n1 ≤ S ∧ (∀ τ2, τ2 = alA σ 101 n1 → zK τ2 r0 = 9 ∧ (∀ τ3, τ3 = stP τ2 r0 2 (some (zN σ)) → ∃ n4 : Nat, 24 = nI n4 ∧ n4 ≤ 100000 ∧ zN τ3 + 1 ≤ C ∧ zS τ3 + n4 ≤ S ∧ (∀ τ5, τ5 = alA τ3 101 n4 → zK τ5 r0 = 9 ∧ (∀ τ6, τ6 = stP τ5 r0 3 (some (zN τ3)) → ∃ n7 : Nat, 384 = nI n7 ∧ n7 ≤ 100000 ∧ zN τ6 + 1 ≤ C ∧ zS τ6 + n7 ≤ S ∧ (∀ τ8, τ8 = alA τ6 101 n7 → zK τ8 r0 = 9 ∧ (∀ τ9, τ9 = stP τ8 r0 4 (some (zN τ6)) → ∃ n10 : Nat, 192 = nI n10 ∧ n10 ≤ 100000 ∧ zN τ9 + 1 ≤ C ∧ zS τ9 + n10 ≤ S ∧ (∀ τ11, τ11 = alA τ9 101 n10 → zK τ11 r0 = 9 ∧ (∀ τ12, τ12 = stP τ11 r0 5 (some (zN τ9)) → ∃ n13 : Nat, 15360 = nI n13 ∧ n13 ≤ 100000 ∧ zN τ12 + 1 ≤ C ∧ zS τ12 + n13 ≤ S ∧ (∀ τ14, τ14 = alA τ12 101 n13 → zK τ14 r0 = 9 ∧ (∀ τ15, τ15 = stP τ14 r0 6 (some (zN τ12)) → ∃ n16 : Nat, 24 = nI n16 ∧ n16 ≤ 100000 ∧ zN τ15 + 1 ≤ C ∧ zS τ15 + n16 ≤ S ∧ (∀ τ17, τ17 = alA τ15 101 n16 → zK τ17 r0 = 9 ∧ (∀ τ18, τ18 = stP τ17 r0 7 (some (zN τ15)) → ∃ n19 : Nat, 24 = nI n19 ∧ n19 ≤ 100000 ∧ zN τ18 + 1 ≤ C ∧ zS τ18 + n19 ≤ S ∧ (∀ τ20, τ20 = alA τ18 101 n19 → zK τ20 r0 = 9 ∧ (∀ τ21, τ21 = stP τ20 r0 10 (some (zN τ18)) → ∃ n22 : Nat, 160 = nI n22 ∧ n22 ≤ 100000 ∧ zN τ21 + 1 ≤ C ∧ zS τ21 + n22 ≤ S ∧ (∀ τ23, τ23 = alA τ21 101 n22 → zK τ23 r0 = 9 ∧ (∀ τ24, τ24 = stP τ23 r0 13 (some (zN τ21)) → ∃ n25 : Nat, 2 = nI n25 ∧ n25 ≤ 100000 ∧ zN τ24 + 1 ≤ C ∧ zS τ24 + n25 ≤ S ∧ (∀ τ26, τ26 = alA τ24 101 n25 → zK τ26 r0 = 9 ∧ (∀ τ27, τ27 = stP τ26 r0 14 (some (zN τ24)) → ∃ n28 : Nat, 128 = nI n28 ∧ n28 ≤ 100000 ∧ zN τ27 + 1 ≤ C ∧ zS τ27 + n28 ≤ S ∧ (∀ τ29, τ29 = alA τ27 101 n28 → zK τ29 r0 = 9 ∧ (∀ τ30, τ30 = stP τ29 r0 15 (some (zN τ27)) → ∃ n31 : Nat, 128 = nI n31 ∧ n31 ≤ 100000 ∧ zN τ30 + 1 ≤ C ∧ zS τ30 + n31 ≤ S ∧ (∀ τ32, τ32 = alA τ30 101 n31 → zK τ32 r0 = 9 ∧ (∀ τ33, τ33 = stP τ32 r0 16 (some (zN τ30)) → ∃ n34 : Nat, 128 = nI n34 ∧ n34 ≤ 100000 ∧ zN τ33 + 1 ≤ C ∧ zS τ33 + n34 ≤ S ∧ (∀ τ35, τ35 = alA τ33 101 n34 → zK τ35 r0 = 9 ∧ (∀ τ36, τ36 = stP τ35 r0 17 (some (zN τ33)) → ∃ n37 : Nat, 128 = nI n37 ∧ n37 ≤ 100000 ∧ zN τ36 + 1 ≤ C ∧ zS τ36 + n37 ≤ S ∧ (∀ τ38, τ38 = alA τ36 101 n37 → zK τ38 r0 = 9 ∧ (∀ τ39, τ39 = stP τ38 r0 18 (some (zN τ36)) → ∃ n40 : Nat, 2 = nI n40 ∧ n40 ≤ 100000 ∧ zN τ39 + 1 ≤ C ∧ zS τ39 + n40 ≤ S ∧ (∀ τ41, τ41 = alA τ39 101 n40 → zK τ41 r0 = 9 ∧ (∀ τ42, τ42 = stP τ41 r0 19 (some (zN τ39)) → ∃ n43 : Nat, 1000 = nI n43 ∧ n43 ≤ 100000 ∧ zN τ42 + 1 ≤ C ∧ zS τ42 + n43 ≤ S ∧ (∀ τ44, τ44 = alA τ42 101 n43 → zK τ44 r0 = 9 ∧ (∀ τ45, τ45 = stP τ44 r0 20 (some (zN τ42)) → ∃ n46 : Nat, 1000 = nI n46 ∧ n46 ≤ 100000 ∧ zN τ45 + 1 ≤ C ∧ zS τ45 + n46 ≤ S ∧ (∀ τ47, τ47 = alA τ45 101 n46 → zK τ47 r0 = 9 ∧ (∀ τ48, τ48 = stP τ47 r0 22 (some (zN τ45)) → ∃ n49 : Nat, 24 = nI n49 ∧ n49 ≤ 100000 ∧ zN τ48 + 1 ≤ C ∧ zS τ48 + n49 ≤ S ∧ (∀ τ50, τ50 = alA τ48 101 n49 → zK τ50 r0 = 9 ∧ (∀ τ51, τ51 = stP τ50 r0 26 (some (zN τ48)) → ∃ n52 : Nat, 24 = nI n52 ∧ n52 ≤ 100000 ∧ zN τ51 + 1 ≤ C ∧ zS τ51 + n52 ≤ S ∧ (∀ τ53, τ53 = alA τ51 101 n52 → zK τ53 r0 = 9 ∧ (∀ τ54, τ54 = stP τ53 r0 27 (some (zN τ51)) → ∃ n55 : Nat, 24 = nI n55 ∧ n55 ≤ 100000 ∧ zN τ54 + 1 ≤ C ∧ zS τ54 + n55 ≤ S ∧ (∀ τ56, τ56 = alA τ54 101 n55 → zK τ56 r0 = 9 ∧ (∀ τ57, τ57 = stP τ56 r0 28 (some (zN τ54)) → ∃ n58 : Nat, 9600 = nI n58 ∧ n58 ≤ 100000 ∧ zN τ57 + 1 ≤ C ∧ zS τ57 + n58 ≤ S ∧ (∀ τ59, τ59 = alA τ57 101 n58 → zK τ59 r0 = 9 ∧ (∀ τ60, τ60 = stP τ59 r0 29 (some (zN τ57)) → ∃ n61 : Nat, 24 = nI n61 ∧ n61 ≤ 100000 ∧ zN τ60 + 1 ≤ C ∧ zS τ60 + n61 ≤ S ∧ (∀ τ62, τ62 = alA τ60 101 n61 → zK τ62 r0 = 9 ∧ (∀ τ63, τ63 = stP τ62 r0 30 (some (zN τ60)) → ∃ n64 : Nat, 24000 = nI n64 ∧ n64 ≤ 100000 ∧ zN τ63 + 1 ≤ C ∧ zS τ63 + n64 ≤ S ∧ (∀ τ65, τ65 = alA τ63 101 n64 → zK τ65 r0 = 9 ∧ (∀ τ66, τ66 = stP τ65 r0 31 (some (zN τ63)) → ∃ n67 : Nat, 96 = nI n67 ∧ n67 ≤ 100000 ∧ zN τ66 + 1 ≤ C ∧ zS τ66 + n67 ≤ S ∧ (∀ τ68, τ68 = alA τ66 101 n67 → zK τ68 r0 = 9 ∧ (∀ τ69, τ69 = stP τ68 r0 33 (some (zN τ66)) → ∃ n70 : Nat, 96 = nI n70 ∧ n70 ≤ 100000 ∧ zN τ69 + 1 ≤ C ∧ zS τ69 + n70 ≤ S ∧ (∀ τ71, τ71 = alA τ69 101 n70 → zK τ71 r0 = 9 ∧ (∀ τ72, τ72 = stP τ71 r0 34 (some (zN τ69)) → ∃ n73 : Nat, 1000 = nI n73 ∧ n73 ≤ 100000 ∧ zN τ72 + 1 ≤ C ∧ zS τ72 + n73 ≤ S ∧ (∀ τ74, τ74 = alA τ72 101 n73 → zK τ74 r0 = 9 ∧ (∀ τ75, τ75 = stP τ74 r0 36 (some (zN τ72)) → Q (Sum.inl none) τ75))))))))))))))))))))))))))))))))))))))))))))))))))) :
    WP g C S 91 0 [some (.ref r0)] [] σ Q := by
  refine r_g (pc' := 1) (ls' := [some (.ref r0)]) (st' := [.ref r0]) dX7_init_0 (fun _ => rfl) ?_
  refine r_oi dX7_init_1 rfl ⟨Nat.le_of_ble_eq_true rfl, Nat.le_of_ble_eq_true rfl, Nat.le_of_ble_eq_true rfl⟩ ?_
  refine r_g (pc' := 5) (ls' := [some (.ref r0)]) (st' := [.ref r0]) dX7_init_4 (fun _ => rfl) ?_
  refine r_bi (v := 24) dX7_init_5 (by decide) ?_
  obtain ⟨n1, hj, hn, hC, hS, h⟩ := h
  refine r_newI dX7_init_7 hj hn hC hS ?_
  generalize eτ2 : alA σ 101 n1 = τ2
  replace h := h _ eτ2.symm
  obtain ⟨hK, h⟩ := h
  refine r_putP dX7_init_9 rfl (by decide) (Or.inr ⟨rfl, rfl⟩) rfl hK ?_
  generalize eτ3 : stP τ2 r0 2 (some (zN σ)) = τ3
  replace h := h _ eτ3.symm
  refine r_g (pc' := 13) (ls' := [some (.ref r0)]) (st' := [.ref r0]) dX7_init_12 (fun _ => rfl) ?_
  refine r_bi (v := 24) dX7_init_13 (by decide) ?_
  obtain ⟨n4, hj, hn, hC, hS, h⟩ := h
  refine r_newI dX7_init_15 hj hn hC hS ?_
  generalize eτ5 : alA τ3 101 n4 = τ5
  replace h := h _ eτ5.symm
  obtain ⟨hK, h⟩ := h
  refine r_putP dX7_init_17 rfl (by decide) (Or.inr ⟨rfl, rfl⟩) rfl hK ?_
  generalize eτ6 : stP τ5 r0 3 (some (zN τ3)) = τ6
  replace h := h _ eτ6.symm
  refine r_g (pc' := 21) (ls' := [some (.ref r0)]) (st' := [.ref r0]) dX7_init_20 (fun _ => rfl) ?_
  refine r_si (v := 384) dX7_init_21 (by decide) ?_
  obtain ⟨n7, hj, hn, hC, hS, h⟩ := h
  refine r_newI dX7_init_24 hj hn hC hS ?_
  generalize eτ8 : alA τ6 101 n7 = τ8
  replace h := h _ eτ8.symm
  obtain ⟨hK, h⟩ := h
  refine r_putP dX7_init_26 rfl (by decide) (Or.inr ⟨rfl, rfl⟩) rfl hK ?_
  generalize eτ9 : stP τ8 r0 4 (some (zN τ6)) = τ9
  replace h := h _ eτ9.symm
  refine r_g (pc' := 30) (ls' := [some (.ref r0)]) (st' := [.ref r0]) dX7_init_29 (fun _ => rfl) ?_
  refine r_si (v := 192) dX7_init_30 (by decide) ?_
  obtain ⟨n10, hj, hn, hC, hS, h⟩ := h
  refine r_newI dX7_init_33 hj hn hC hS ?_
  generalize eτ11 : alA τ9 101 n10 = τ11
  replace h := h _ eτ11.symm
  obtain ⟨hK, h⟩ := h
  refine r_putP dX7_init_35 rfl (by decide) (Or.inr ⟨rfl, rfl⟩) rfl hK ?_
  generalize eτ12 : stP τ11 r0 5 (some (zN τ9)) = τ12
  replace h := h _ eτ12.symm
  refine r_g (pc' := 39) (ls' := [some (.ref r0)]) (st' := [.ref r0]) dX7_init_38 (fun _ => rfl) ?_
  refine r_si (v := 15360) dX7_init_39 (by decide) ?_
  obtain ⟨n13, hj, hn, hC, hS, h⟩ := h
  refine r_newI dX7_init_42 hj hn hC hS ?_
  generalize eτ14 : alA τ12 101 n13 = τ14
  replace h := h _ eτ14.symm
  obtain ⟨hK, h⟩ := h
  refine r_putP dX7_init_44 rfl (by decide) (Or.inr ⟨rfl, rfl⟩) rfl hK ?_
  generalize eτ15 : stP τ14 r0 6 (some (zN τ12)) = τ15
  replace h := h _ eτ15.symm
  refine r_g (pc' := 48) (ls' := [some (.ref r0)]) (st' := [.ref r0]) dX7_init_47 (fun _ => rfl) ?_
  refine r_bi (v := 24) dX7_init_48 (by decide) ?_
  obtain ⟨n16, hj, hn, hC, hS, h⟩ := h
  refine r_newI dX7_init_50 hj hn hC hS ?_
  generalize eτ17 : alA τ15 101 n16 = τ17
  replace h := h _ eτ17.symm
  obtain ⟨hK, h⟩ := h
  refine r_putP dX7_init_52 rfl (by decide) (Or.inr ⟨rfl, rfl⟩) rfl hK ?_
  generalize eτ18 : stP τ17 r0 7 (some (zN τ15)) = τ18
  replace h := h _ eτ18.symm
  refine r_g (pc' := 56) (ls' := [some (.ref r0)]) (st' := [.ref r0]) dX7_init_55 (fun _ => rfl) ?_
  refine r_bi (v := 24) dX7_init_56 (by decide) ?_
  obtain ⟨n19, hj, hn, hC, hS, h⟩ := h
  refine r_newI dX7_init_58 hj hn hC hS ?_
  generalize eτ20 : alA τ18 101 n19 = τ20
  replace h := h _ eτ20.symm
  obtain ⟨hK, h⟩ := h
  refine r_putP dX7_init_60 rfl (by decide) (Or.inr ⟨rfl, rfl⟩) rfl hK ?_
  generalize eτ21 : stP τ20 r0 10 (some (zN τ18)) = τ21
  replace h := h _ eτ21.symm
  refine r_g (pc' := 64) (ls' := [some (.ref r0)]) (st' := [.ref r0]) dX7_init_63 (fun _ => rfl) ?_
  refine r_si (v := 160) dX7_init_64 (by decide) ?_
  obtain ⟨n22, hj, hn, hC, hS, h⟩ := h
  refine r_newI dX7_init_67 hj hn hC hS ?_
  generalize eτ23 : alA τ21 101 n22 = τ23
  replace h := h _ eτ23.symm
  obtain ⟨hK, h⟩ := h
  refine r_putP dX7_init_69 rfl (by decide) (Or.inr ⟨rfl, rfl⟩) rfl hK ?_
  generalize eτ24 : stP τ23 r0 13 (some (zN τ21)) = τ24
  replace h := h _ eτ24.symm
  refine r_g (pc' := 73) (ls' := [some (.ref r0)]) (st' := [.ref r0]) dX7_init_72 (fun _ => rfl) ?_
  refine r_ic (v := 2) dX7_init_73 (by decide) ?_
  obtain ⟨n25, hj, hn, hC, hS, h⟩ := h
  refine r_newI dX7_init_74 hj hn hC hS ?_
  generalize eτ26 : alA τ24 101 n25 = τ26
  replace h := h _ eτ26.symm
  obtain ⟨hK, h⟩ := h
  refine r_putP dX7_init_76 rfl (by decide) (Or.inr ⟨rfl, rfl⟩) rfl hK ?_
  generalize eτ27 : stP τ26 r0 14 (some (zN τ24)) = τ27
  replace h := h _ eτ27.symm
  refine r_g (pc' := 80) (ls' := [some (.ref r0)]) (st' := [.ref r0]) dX7_init_79 (fun _ => rfl) ?_
  refine r_si (v := 128) dX7_init_80 (by decide) ?_
  obtain ⟨n28, hj, hn, hC, hS, h⟩ := h
  refine r_newI dX7_init_83 hj hn hC hS ?_
  generalize eτ29 : alA τ27 101 n28 = τ29
  replace h := h _ eτ29.symm
  obtain ⟨hK, h⟩ := h
  refine r_putP dX7_init_85 rfl (by decide) (Or.inr ⟨rfl, rfl⟩) rfl hK ?_
  generalize eτ30 : stP τ29 r0 15 (some (zN τ27)) = τ30
  replace h := h _ eτ30.symm
  refine r_g (pc' := 89) (ls' := [some (.ref r0)]) (st' := [.ref r0]) dX7_init_88 (fun _ => rfl) ?_
  refine r_si (v := 128) dX7_init_89 (by decide) ?_
  obtain ⟨n31, hj, hn, hC, hS, h⟩ := h
  refine r_newI dX7_init_92 hj hn hC hS ?_
  generalize eτ32 : alA τ30 101 n31 = τ32
  replace h := h _ eτ32.symm
  obtain ⟨hK, h⟩ := h
  refine r_putP dX7_init_94 rfl (by decide) (Or.inr ⟨rfl, rfl⟩) rfl hK ?_
  generalize eτ33 : stP τ32 r0 16 (some (zN τ30)) = τ33
  replace h := h _ eτ33.symm
  refine r_g (pc' := 98) (ls' := [some (.ref r0)]) (st' := [.ref r0]) dX7_init_97 (fun _ => rfl) ?_
  refine r_si (v := 128) dX7_init_98 (by decide) ?_
  obtain ⟨n34, hj, hn, hC, hS, h⟩ := h
  refine r_newI dX7_init_101 hj hn hC hS ?_
  generalize eτ35 : alA τ33 101 n34 = τ35
  replace h := h _ eτ35.symm
  obtain ⟨hK, h⟩ := h
  refine r_putP dX7_init_103 rfl (by decide) (Or.inr ⟨rfl, rfl⟩) rfl hK ?_
  generalize eτ36 : stP τ35 r0 17 (some (zN τ33)) = τ36
  replace h := h _ eτ36.symm
  refine r_g (pc' := 107) (ls' := [some (.ref r0)]) (st' := [.ref r0]) dX7_init_106 (fun _ => rfl) ?_
  refine r_si (v := 128) dX7_init_107 (by decide) ?_
  obtain ⟨n37, hj, hn, hC, hS, h⟩ := h
  refine r_newI dX7_init_110 hj hn hC hS ?_
  generalize eτ38 : alA τ36 101 n37 = τ38
  replace h := h _ eτ38.symm
  obtain ⟨hK, h⟩ := h
  refine r_putP dX7_init_112 rfl (by decide) (Or.inr ⟨rfl, rfl⟩) rfl hK ?_
  generalize eτ39 : stP τ38 r0 18 (some (zN τ36)) = τ39
  replace h := h _ eτ39.symm
  refine r_g (pc' := 116) (ls' := [some (.ref r0)]) (st' := [.ref r0]) dX7_init_115 (fun _ => rfl) ?_
  refine r_ic (v := 2) dX7_init_116 (by decide) ?_
  obtain ⟨n40, hj, hn, hC, hS, h⟩ := h
  refine r_newI dX7_init_117 hj hn hC hS ?_
  generalize eτ41 : alA τ39 101 n40 = τ41
  replace h := h _ eτ41.symm
  obtain ⟨hK, h⟩ := h
  refine r_putP dX7_init_119 rfl (by decide) (Or.inr ⟨rfl, rfl⟩) rfl hK ?_
  generalize eτ42 : stP τ41 r0 19 (some (zN τ39)) = τ42
  replace h := h _ eτ42.symm
  refine r_g (pc' := 123) (ls' := [some (.ref r0)]) (st' := [.ref r0]) dX7_init_122 (fun _ => rfl) ?_
  refine r_si (v := 1000) dX7_init_123 (by decide) ?_
  obtain ⟨n43, hj, hn, hC, hS, h⟩ := h
  refine r_newI dX7_init_126 hj hn hC hS ?_
  generalize eτ44 : alA τ42 101 n43 = τ44
  replace h := h _ eτ44.symm
  obtain ⟨hK, h⟩ := h
  refine r_putP dX7_init_128 rfl (by decide) (Or.inr ⟨rfl, rfl⟩) rfl hK ?_
  generalize eτ45 : stP τ44 r0 20 (some (zN τ42)) = τ45
  replace h := h _ eτ45.symm
  refine r_g (pc' := 132) (ls' := [some (.ref r0)]) (st' := [.ref r0]) dX7_init_131 (fun _ => rfl) ?_
  refine r_si (v := 1000) dX7_init_132 (by decide) ?_
  obtain ⟨n46, hj, hn, hC, hS, h⟩ := h
  refine r_newI dX7_init_135 hj hn hC hS ?_
  generalize eτ47 : alA τ45 101 n46 = τ47
  replace h := h _ eτ47.symm
  obtain ⟨hK, h⟩ := h
  refine r_putP dX7_init_137 rfl (by decide) (Or.inr ⟨rfl, rfl⟩) rfl hK ?_
  generalize eτ48 : stP τ47 r0 22 (some (zN τ45)) = τ48
  replace h := h _ eτ48.symm
  refine r_g (pc' := 141) (ls' := [some (.ref r0)]) (st' := [.ref r0]) dX7_init_140 (fun _ => rfl) ?_
  refine r_bi (v := 24) dX7_init_141 (by decide) ?_
  obtain ⟨n49, hj, hn, hC, hS, h⟩ := h
  refine r_newI dX7_init_143 hj hn hC hS ?_
  generalize eτ50 : alA τ48 101 n49 = τ50
  replace h := h _ eτ50.symm
  obtain ⟨hK, h⟩ := h
  refine r_putP dX7_init_145 rfl (by decide) (Or.inr ⟨rfl, rfl⟩) rfl hK ?_
  generalize eτ51 : stP τ50 r0 26 (some (zN τ48)) = τ51
  replace h := h _ eτ51.symm
  refine r_g (pc' := 149) (ls' := [some (.ref r0)]) (st' := [.ref r0]) dX7_init_148 (fun _ => rfl) ?_
  refine r_bi (v := 24) dX7_init_149 (by decide) ?_
  obtain ⟨n52, hj, hn, hC, hS, h⟩ := h
  refine r_newI dX7_init_151 hj hn hC hS ?_
  generalize eτ53 : alA τ51 101 n52 = τ53
  replace h := h _ eτ53.symm
  obtain ⟨hK, h⟩ := h
  refine r_putP dX7_init_153 rfl (by decide) (Or.inr ⟨rfl, rfl⟩) rfl hK ?_
  generalize eτ54 : stP τ53 r0 27 (some (zN τ51)) = τ54
  replace h := h _ eτ54.symm
  refine r_g (pc' := 157) (ls' := [some (.ref r0)]) (st' := [.ref r0]) dX7_init_156 (fun _ => rfl) ?_
  refine r_bi (v := 24) dX7_init_157 (by decide) ?_
  obtain ⟨n55, hj, hn, hC, hS, h⟩ := h
  refine r_newI dX7_init_159 hj hn hC hS ?_
  generalize eτ56 : alA τ54 101 n55 = τ56
  replace h := h _ eτ56.symm
  obtain ⟨hK, h⟩ := h
  refine r_putP dX7_init_161 rfl (by decide) (Or.inr ⟨rfl, rfl⟩) rfl hK ?_
  generalize eτ57 : stP τ56 r0 28 (some (zN τ54)) = τ57
  replace h := h _ eτ57.symm
  refine r_g (pc' := 165) (ls' := [some (.ref r0)]) (st' := [.ref r0]) dX7_init_164 (fun _ => rfl) ?_
  refine r_si (v := 9600) dX7_init_165 (by decide) ?_
  obtain ⟨n58, hj, hn, hC, hS, h⟩ := h
  refine r_newI dX7_init_168 hj hn hC hS ?_
  generalize eτ59 : alA τ57 101 n58 = τ59
  replace h := h _ eτ59.symm
  obtain ⟨hK, h⟩ := h
  refine r_putP dX7_init_170 rfl (by decide) (Or.inr ⟨rfl, rfl⟩) rfl hK ?_
  generalize eτ60 : stP τ59 r0 29 (some (zN τ57)) = τ60
  replace h := h _ eτ60.symm
  refine r_g (pc' := 174) (ls' := [some (.ref r0)]) (st' := [.ref r0]) dX7_init_173 (fun _ => rfl) ?_
  refine r_bi (v := 24) dX7_init_174 (by decide) ?_
  obtain ⟨n61, hj, hn, hC, hS, h⟩ := h
  refine r_newI dX7_init_176 hj hn hC hS ?_
  generalize eτ62 : alA τ60 101 n61 = τ62
  replace h := h _ eτ62.symm
  obtain ⟨hK, h⟩ := h
  refine r_putP dX7_init_178 rfl (by decide) (Or.inr ⟨rfl, rfl⟩) rfl hK ?_
  generalize eτ63 : stP τ62 r0 30 (some (zN τ60)) = τ63
  replace h := h _ eτ63.symm
  refine r_g (pc' := 182) (ls' := [some (.ref r0)]) (st' := [.ref r0]) dX7_init_181 (fun _ => rfl) ?_
  refine r_si (v := 24000) dX7_init_182 (by decide) ?_
  obtain ⟨n64, hj, hn, hC, hS, h⟩ := h
  refine r_newI dX7_init_185 hj hn hC hS ?_
  generalize eτ65 : alA τ63 101 n64 = τ65
  replace h := h _ eτ65.symm
  obtain ⟨hK, h⟩ := h
  refine r_putP dX7_init_187 rfl (by decide) (Or.inr ⟨rfl, rfl⟩) rfl hK ?_
  generalize eτ66 : stP τ65 r0 31 (some (zN τ63)) = τ66
  replace h := h _ eτ66.symm
  refine r_g (pc' := 191) (ls' := [some (.ref r0)]) (st' := [.ref r0]) dX7_init_190 (fun _ => rfl) ?_
  refine r_bi (v := 96) dX7_init_191 (by decide) ?_
  obtain ⟨n67, hj, hn, hC, hS, h⟩ := h
  refine r_newI dX7_init_193 hj hn hC hS ?_
  generalize eτ68 : alA τ66 101 n67 = τ68
  replace h := h _ eτ68.symm
  obtain ⟨hK, h⟩ := h
  refine r_putP dX7_init_195 rfl (by decide) (Or.inr ⟨rfl, rfl⟩) rfl hK ?_
  generalize eτ69 : stP τ68 r0 33 (some (zN τ66)) = τ69
  replace h := h _ eτ69.symm
  refine r_g (pc' := 199) (ls' := [some (.ref r0)]) (st' := [.ref r0]) dX7_init_198 (fun _ => rfl) ?_
  refine r_bi (v := 96) dX7_init_199 (by decide) ?_
  obtain ⟨n70, hj, hn, hC, hS, h⟩ := h
  refine r_newI dX7_init_201 hj hn hC hS ?_
  generalize eτ71 : alA τ69 101 n70 = τ71
  replace h := h _ eτ71.symm
  obtain ⟨hK, h⟩ := h
  refine r_putP dX7_init_203 rfl (by decide) (Or.inr ⟨rfl, rfl⟩) rfl hK ?_
  generalize eτ72 : stP τ71 r0 34 (some (zN τ69)) = τ72
  replace h := h _ eτ72.symm
  refine r_g (pc' := 207) (ls' := [some (.ref r0)]) (st' := [.ref r0]) dX7_init_206 (fun _ => rfl) ?_
  refine r_si (v := 1000) dX7_init_207 (by decide) ?_
  obtain ⟨n73, hj, hn, hC, hS, h⟩ := h
  refine r_newI dX7_init_210 hj hn hC hS ?_
  generalize eτ74 : alA τ72 101 n73 = τ74
  replace h := h _ eτ74.symm
  obtain ⟨hK, h⟩ := h
  refine r_putP dX7_init_212 rfl (by decide) (Or.inr ⟨rfl, rfl⟩) rfl hK ?_
  generalize eτ75 : stP τ74 r0 36 (some (zN τ72)) = τ75
  replace h := h _ eτ75.symm
  exact r_vret dX7_init_215 rfl h
theorem b92_0 {g : Nat → Nat} {C S : Nat} {σ : PS} {Q : Rs → PS → Prop} {r0 : Nat}
    (h : zK σ r0 = 9 ∧ Q (Sum.inl (some (.int (zI σ r0 0)))) σ) :
    WP g C S 92 0 [some (.ref r0)] [] σ Q := by
  refine r_g (pc' := 1) (ls' := [some (.ref r0)]) (st' := [.ref r0]) dX7_thrown_0 (fun _ => rfl) ?_
  obtain ⟨hK, h⟩ := h
  refine r_getI dX7_thrown_1 rfl (by decide) rfl hK ?_
  exact r_ret dX7_thrown_4 rfl h
theorem b93_0 {g : Nat → Nat} {C S : Nat} {σ : PS} {Q : Rs → PS → Prop} {r0 : Nat} {x1 : Int32}
    (h : ((x1 : Int32) < 0 → WP g C S 93 16 [some (.ref r0), some (.int x1)] [] σ Q) ∧ (¬ ((x1 : Int32) < 0) → zK σ r0 = 9 ∧ ((zI σ r0 1 : Int32) ≤ x1 → WP g C S 93 16 [some (.ref r0), some (.int x1)] [] σ Q) ∧ (¬ ((zI σ r0 1 : Int32) ≤ x1) → WP g C S 93 17 [some (.ref r0), some (.int x1)] [.int 1] σ Q))) :
    WP g C S 93 0 [some (.ref r0), some (.int x1)] [] σ Q := by
  refine r_g (pc' := 1) (ls' := [some (.ref r0), some (.int x1)]) (st' := [.int x1]) dX7_isEntry_0 (fun _ => rfl) ?_
  obtain ⟨h1, h2⟩ := h
  refine r_if (t := 16) dX7_isEntry_1 (by decide) c_lt (fun c => ?_) (fun c => ?_)
  · have h := h1 c
    exact h
  · have h := h2 c
    refine r_g (pc' := 5) (ls' := [some (.ref r0), some (.int x1)]) (st' := [.int x1]) dX7_isEntry_4 (fun _ => rfl) ?_
    refine r_g (pc' := 6) (ls' := [some (.ref r0), some (.int x1)]) (st' := [.ref r0, .int x1]) dX7_isEntry_5 (fun _ => rfl) ?_
    obtain ⟨hK, h⟩ := h
    refine r_getI dX7_isEntry_6 rfl (by decide) rfl hK ?_
    obtain ⟨h1, h2⟩ := h
    refine r_icmp (t := 16) dX7_isEntry_9 (by decide) c_ge (fun c => ?_) (fun c => ?_)
    · have h := h1 c
      exact h
    · have h := h2 c
      refine r_ic (v := 1) dX7_isEntry_12 (by decide) ?_
      refine r_goto (t := 17) dX7_isEntry_13 (by decide) ?_
      exact h
theorem b93_16 {g : Nat → Nat} {C S : Nat} {σ : PS} {Q : Rs → PS → Prop} {l0 : Option Value} {l1 : Option Value}
    (h : WP g C S 93 17 [l0, l1] [.int 0] σ Q) :
    WP g C S 93 16 [l0, l1] [] σ Q := by
  refine r_ic (v := 0) dX7_isEntry_16 (by decide) ?_
  exact h
theorem b93_17 {g : Nat → Nat} {C S : Nat} {σ : PS} {Q : Rs → PS → Prop} {l0 : Option Value} {l1 : Option Value} {u0 : Int32}
    (h : ((u0 : Int32) = 0 ∨ u0 = 1) ∧ Q (Sum.inl (some (.int u0))) σ) :
    WP g C S 93 17 [l0, l1] [.int u0] σ Q := by
  obtain ⟨hn, h⟩ := h
  exact r_ret dX7_isEntry_17 (by rcases hn with q | q <;> rw [q] <;> rfl) h
theorem b94_0 {g : Nat → Nat} {C S : Nat} {σ : PS} {Q : Rs → PS → Prop} {r0 : Nat} {x1 : Int32}
    (h : zK σ r0 = 9 ∧ (¬ (zI σ r0 1 : Int32) = 24 → WP g C S 94 15 [some (.ref r0), some (.int x1)] [.int 0, .ref r0] σ Q) ∧ (¬ (¬ (zI σ r0 1 : Int32) = 24) → WP g C S 94 15 [some (.ref r0), some (.int x1)] [.int 1, .ref r0] σ Q)) :
    WP g C S 94 0 [some (.ref r0), some (.int x1)] [] σ Q := by
  refine r_g (pc' := 1) (ls' := [some (.ref r0), some (.int x1)]) (st' := [.ref r0]) dX7_entry_0 (fun _ => rfl) ?_
  refine r_g (pc' := 2) (ls' := [some (.ref r0), some (.int x1)]) (st' := [.ref r0, .ref r0]) dX7_entry_1 (fun _ => rfl) ?_
  obtain ⟨hK, h⟩ := h
  refine r_getI dX7_entry_2 rfl (by decide) rfl hK ?_
  refine r_bi (v := 24) dX7_entry_5 (by decide) ?_
  obtain ⟨h1, h2⟩ := h
  refine r_icmp (t := 14) dX7_entry_7 (by decide) c_ne (fun c => ?_) (fun c => ?_)
  · have h := h1 c
    refine r_ic (v := 0) dX7_entry_14 (by decide) ?_
    exact h
  · have h := h2 c
    refine r_ic (v := 1) dX7_entry_10 (by decide) ?_
    refine r_goto (t := 15) dX7_entry_11 (by decide) ?_
    exact h
theorem b94_15 {g : Nat → Nat} {C S : Nat} {σ : PS} {Q : Rs → PS → Prop} {r0 : Nat} {x1 : Int32} {u0 : Int32} {w1 : Nat}
    (h : zK σ w1 = 9 ∧ (∀ τ1, τ1 = stI σ w1 0 u0 → zK τ1 r0 = 9 ∧ ((zI τ1 r0 0 : Int32) ≤ 0 → zK τ1 r0 = 9 ∧ ∃ b2, zP τ1 r0 2 = some b2 ∧ (zK τ1 r0 = 9 ∧ ((x1 : Int32) < 0 → WP g C S 94 44 [some (.ref r0), some (.int x1)] [.int (zI τ1 r0 1), .ref b2] τ1 Q) ∧ (¬ ((x1 : Int32) < 0) → ((x1 : Int32) ≤ 3 → WP g C S 94 49 [some (.ref r0), some (.int x1)] [.int x1, .int (zI τ1 r0 1), .ref b2] τ1 Q) ∧ (¬ ((x1 : Int32) ≤ 3) → WP g C S 94 44 [some (.ref r0), some (.int x1)] [.int (zI τ1 r0 1), .ref b2] τ1 Q)))) ∧ (¬ ((zI τ1 r0 0 : Int32) ≤ 0) → Q (Sum.inl (some (.int 0))) τ1))) :
    WP g C S 94 15 [some (.ref r0), some (.int x1)] [.int u0, .ref w1] σ Q := by
  obtain ⟨hK, h⟩ := h
  refine r_putI dX7_entry_15 rfl (by decide) (Or.inl rfl) rfl (Or.inl rfl) hK ?_
  generalize eτ1 : stI σ w1 0 u0 = τ1
  replace h := h _ eτ1.symm
  refine r_g (pc' := 19) (ls' := [some (.ref r0), some (.int x1)]) (st' := [.ref r0]) dX7_entry_18 (fun _ => rfl) ?_
  obtain ⟨hK, h⟩ := h
  refine r_getI dX7_entry_19 rfl (by decide) rfl hK ?_
  obtain ⟨h1, h2⟩ := h
  refine r_if (t := 27) dX7_entry_22 (by decide) c_le (fun c => ?_) (fun c => ?_)
  · have h := h1 c
    refine r_g (pc' := 28) (ls' := [some (.ref r0), some (.int x1)]) (st' := [.ref r0]) dX7_entry_27 (fun _ => rfl) ?_
    obtain ⟨hK, b2, hP, h⟩ := h
    refine r_getP dX7_entry_28 rfl (by decide) rfl hK hP ?_
    refine r_g (pc' := 32) (ls' := [some (.ref r0), some (.int x1)]) (st' := [.ref r0, .ref b2]) dX7_entry_31 (fun _ => rfl) ?_
    obtain ⟨hK, h⟩ := h
    refine r_getI dX7_entry_32 rfl (by decide) rfl hK ?_
    refine r_g (pc' := 36) (ls' := [some (.ref r0), some (.int x1)]) (st' := [.int x1, .int (zI τ1 r0 1), .ref b2]) dX7_entry_35 (fun _ => rfl) ?_
    obtain ⟨h1, h2⟩ := h
    refine r_if (t := 44) dX7_entry_36 (by decide) c_lt (fun c => ?_) (fun c => ?_)
    · have h := h1 c
      exact h
    · have h := h2 c
      refine r_g (pc' := 40) (ls' := [some (.ref r0), some (.int x1)]) (st' := [.int x1, .int (zI τ1 r0 1), .ref b2]) dX7_entry_39 (fun _ => rfl) ?_
      refine r_ic (v := 3) dX7_entry_40 (by decide) ?_
      obtain ⟨h1, h2⟩ := h
      refine r_icmp (t := 48) dX7_entry_41 (by decide) c_le (fun c => ?_) (fun c => ?_)
      · have h := h1 c
        refine r_g (pc' := 49) (ls' := [some (.ref r0), some (.int x1)]) (st' := [.int x1, .int (zI τ1 r0 1), .ref b2]) dX7_entry_48 (fun _ => rfl) ?_
        exact h
      · have h := h2 c
        exact h
  · have h := h2 c
    refine r_ic (v := 0) dX7_entry_25 (by decide) ?_
    exact r_ret dX7_entry_26 rfl h
theorem b94_44 {g : Nat → Nat} {C S : Nat} {σ : PS} {Q : Rs → PS → Prop} {r0 : Nat} {l1 : Option Value} {u0 : Int32} {w1 : Nat}
    (h : WP g C S 94 49 [some (.ref r0), l1] [.int 4, .int u0, .ref w1] σ Q) :
    WP g C S 94 44 [some (.ref r0), l1] [.int u0, .ref w1] σ Q := by
  refine r_ic (v := 4) dX7_entry_44 (by decide) ?_
  refine r_goto (t := 49) dX7_entry_45 (by decide) ?_
  exact h
theorem b94_49 {g : Nat → Nat} {C S : Nat} {σ : PS} {Q : Rs → PS → Prop} {r0 : Nat} {l1 : Option Value} {u0 : Int32} {u1 : Int32} {w2 : Nat}
    (h : ∃ n1 : Nat, u1 = nI n1 ∧ n1 < 2147483648 ∧ zK σ w2 = 101 ∧ n1 < zL σ w2 ∧ (∀ τ2, τ2 = stI σ w2 n1 u0 → zK τ2 r0 = 9 ∧ ∃ b3, zP τ2 r0 7 = some b3 ∧ (zK τ2 r0 = 9 ∧ ∃ n4 : Nat, zI τ2 r0 1 = nI n4 ∧ n4 < 2147483648 ∧ zK τ2 b3 = 101 ∧ n4 < zL τ2 b3 ∧ (∀ τ5, τ5 = stI τ2 b3 n4 (-1) → zK τ5 r0 = 9 ∧ zK τ5 r0 = 9 ∧ (∀ τ6, τ6 = stI τ5 r0 1 ((zI τ5 r0 1) + 1) → zK τ6 r0 = 9 ∧ Q (Sum.inl (some (.int ((zI τ6 r0 1) - 1)))) τ6))))) :
    WP g C S 94 49 [some (.ref r0), l1] [.int u0, .int u1, .ref w2] σ Q := by
  obtain ⟨n1, hj, hn, hK, hL, h⟩ := h
  refine r_iast dX7_entry_49 hj hn hK hL ?_
  generalize eτ2 : stI σ w2 n1 u0 = τ2
  replace h := h _ eτ2.symm
  refine r_g (pc' := 51) (ls' := [some (.ref r0), l1]) (st' := [.ref r0]) dX7_entry_50 (fun _ => rfl) ?_
  obtain ⟨hK, b3, hP, h⟩ := h
  refine r_getP dX7_entry_51 rfl (by decide) rfl hK hP ?_
  refine r_g (pc' := 55) (ls' := [some (.ref r0), l1]) (st' := [.ref r0, .ref b3]) dX7_entry_54 (fun _ => rfl) ?_
  obtain ⟨hK, h⟩ := h
  refine r_getI dX7_entry_55 rfl (by decide) rfl hK ?_
  refine r_ic (v := -1) dX7_entry_58 (by decide) ?_
  obtain ⟨n4, hj, hn, hK, hL, h⟩ := h
  refine r_iast dX7_entry_59 hj hn hK hL ?_
  generalize eτ5 : stI τ2 b3 n4 (-1) = τ5
  replace h := h _ eτ5.symm
  refine r_g (pc' := 61) (ls' := [some (.ref r0), l1]) (st' := [.ref r0]) dX7_entry_60 (fun _ => rfl) ?_
  refine r_g (pc' := 62) (ls' := [some (.ref r0), l1]) (st' := [.ref r0, .ref r0]) dX7_entry_61 (fun _ => rfl) ?_
  obtain ⟨hK, h⟩ := h
  refine r_getI dX7_entry_62 rfl (by decide) rfl hK ?_
  refine r_ic (v := 1) dX7_entry_65 (by decide) ?_
  refine r_g (pc' := 67) (ls' := [some (.ref r0), l1]) (st' := [.int ((zI τ5 r0 1) + 1), .ref r0]) dX7_entry_66 (fun _ => rfl) ?_
  obtain ⟨hK, h⟩ := h
  refine r_putI dX7_entry_67 rfl (by decide) (Or.inl rfl) rfl (Or.inl rfl) hK ?_
  generalize eτ6 : stI τ5 r0 1 ((zI τ5 r0 1) + 1) = τ6
  replace h := h _ eτ6.symm
  refine r_g (pc' := 71) (ls' := [some (.ref r0), l1]) (st' := [.ref r0]) dX7_entry_70 (fun _ => rfl) ?_
  obtain ⟨hK, h⟩ := h
  refine r_getI dX7_entry_71 rfl (by decide) rfl hK ?_
  refine r_ic (v := 1) dX7_entry_74 (by decide) ?_
  refine r_g (pc' := 76) (ls' := [some (.ref r0), l1]) (st' := [.int ((zI τ6 r0 1) - 1)]) dX7_entry_75 (fun _ => rfl) ?_
  exact r_ret dX7_entry_76 rfl h
theorem b95_0 {g : Nat → Nat} {C S : Nat} {σ : PS} {Q : Rs → PS → Prop} {x0 : Int32}
    (h : ((x0 : Int32) < 32 → WP g C S 95 12 [some (.int x0)] [] σ Q) ∧ (¬ ((x0 : Int32) < 32) → ((x0 : Int32) ≤ 126 → WP g C S 95 33 [some (.int x0)] [] σ Q) ∧ (¬ ((x0 : Int32) ≤ 126) → WP g C S 95 12 [some (.int x0)] [] σ Q))) :
    WP g C S 95 0 [some (.int x0)] [] σ Q := by
  refine r_g (pc' := 1) (ls' := [some (.int x0)]) (st' := [.int x0]) dX7_isCharacter_0 (fun _ => rfl) ?_
  refine r_bi (v := 32) dX7_isCharacter_1 (by decide) ?_
  obtain ⟨h1, h2⟩ := h
  refine r_icmp (t := 12) dX7_isCharacter_3 (by decide) c_lt (fun c => ?_) (fun c => ?_)
  · have h := h1 c
    exact h
  · have h := h2 c
    refine r_g (pc' := 7) (ls' := [some (.int x0)]) (st' := [.int x0]) dX7_isCharacter_6 (fun _ => rfl) ?_
    refine r_bi (v := 126) dX7_isCharacter_7 (by decide) ?_
    obtain ⟨h1, h2⟩ := h
    refine r_icmp (t := 33) dX7_isCharacter_9 (by decide) c_le (fun c => ?_) (fun c => ?_)
    · have h := h1 c
      exact h
    · have h := h2 c
      exact h
theorem b95_12 {g : Nat → Nat} {C S : Nat} {σ : PS} {Q : Rs → PS → Prop} {x0 : Int32}
    (h : ((x0 : Int32) < 192 → WP g C S 95 37 [some (.int x0)] [] σ Q) ∧ (¬ ((x0 : Int32) < 192) → ((x0 : Int32) = 215 → WP g C S 95 37 [some (.int x0)] [] σ Q) ∧ (¬ ((x0 : Int32) = 215) → ((x0 : Int32) = 247 → WP g C S 95 37 [some (.int x0)] [] σ Q) ∧ (¬ ((x0 : Int32) = 247) → WP g C S 95 33 [some (.int x0)] [] σ Q)))) :
    WP g C S 95 12 [some (.int x0)] [] σ Q := by
  refine r_g (pc' := 13) (ls' := [some (.int x0)]) (st' := [.int x0]) dX7_isCharacter_12 (fun _ => rfl) ?_
  refine r_si (v := 192) dX7_isCharacter_13 (by decide) ?_
  obtain ⟨h1, h2⟩ := h
  refine r_icmp (t := 37) dX7_isCharacter_16 (by decide) c_lt (fun c => ?_) (fun c => ?_)
  · have h := h1 c
    exact h
  · have h := h2 c
    refine r_g (pc' := 20) (ls' := [some (.int x0)]) (st' := [.int x0]) dX7_isCharacter_19 (fun _ => rfl) ?_
    refine r_si (v := 215) dX7_isCharacter_20 (by decide) ?_
    obtain ⟨h1, h2⟩ := h
    refine r_icmp (t := 37) dX7_isCharacter_23 (by decide) c_eq (fun c => ?_) (fun c => ?_)
    · have h := h1 c
      exact h
    · have h := h2 c
      refine r_g (pc' := 27) (ls' := [some (.int x0)]) (st' := [.int x0]) dX7_isCharacter_26 (fun _ => rfl) ?_
      refine r_si (v := 247) dX7_isCharacter_27 (by decide) ?_
      obtain ⟨h1, h2⟩ := h
      refine r_icmp (t := 37) dX7_isCharacter_30 (by decide) c_eq (fun c => ?_) (fun c => ?_)
      · have h := h1 c
        exact h
      · have h := h2 c
        exact h
theorem b95_33 {g : Nat → Nat} {C S : Nat} {σ : PS} {Q : Rs → PS → Prop} {l0 : Option Value}
    (h : WP g C S 95 38 [l0] [.int 1] σ Q) :
    WP g C S 95 33 [l0] [] σ Q := by
  refine r_ic (v := 1) dX7_isCharacter_33 (by decide) ?_
  refine r_goto (t := 38) dX7_isCharacter_34 (by decide) ?_
  exact h
theorem b95_37 {g : Nat → Nat} {C S : Nat} {σ : PS} {Q : Rs → PS → Prop} {l0 : Option Value}
    (h : WP g C S 95 38 [l0] [.int 0] σ Q) :
    WP g C S 95 37 [l0] [] σ Q := by
  refine r_ic (v := 0) dX7_isCharacter_37 (by decide) ?_
  exact h
theorem b95_38 {g : Nat → Nat} {C S : Nat} {σ : PS} {Q : Rs → PS → Prop} {l0 : Option Value} {u0 : Int32}
    (h : ((u0 : Int32) = 0 ∨ u0 = 1) ∧ Q (Sum.inl (some (.int u0))) σ) :
    WP g C S 95 38 [l0] [.int u0] σ Q := by
  obtain ⟨hn, h⟩ := h
  exact r_ret dX7_isCharacter_38 (by rcases hn with q | q <;> rw [q] <;> rfl) h
theorem b96_0 {g : Nat → Nat} {C S : Nat} {σ : PS} {Q : Rs → PS → Prop} {x0 : Int32} {l1 : Option Value} {l2 : Option Value} {l3 : Option Value}
    (h : WP g C S 96 4 [some (.int x0), some (.int 0), some (.int 0), l3] [] σ Q) :
    WP g C S 96 0 [some (.int x0), l1, l2, l3] [] σ Q := by
  refine r_ic (v := 0) dX7_countOf_0 (by decide) ?_
  refine r_g (pc' := 2) (ls' := [some (.int x0), some (.int 0), l2, l3]) (st' := []) dX7_countOf_1 (fun _ => rfl) ?_
  refine r_ic (v := 0) dX7_countOf_2 (by decide) ?_
  refine r_g (pc' := 4) (ls' := [some (.int x0), some (.int 0), some (.int 0), l3]) (st' := []) dX7_countOf_3 (fun _ => rfl) ?_
  exact h
theorem b96_4 {g : Nat → Nat} {C S : Nat} {σ : PS} {Q : Rs → PS → Prop} {x0 : Int32} {x1 : Int32} {x2 : Int32} {l3 : Option Value}
    (h : ((4 : Int32) ≤ x2 → WP g C S 96 50 [some (.int x0), some (.int x1), some (.int x2), l3] [] σ Q) ∧ (¬ ((4 : Int32) ≤ x2) → ((x1 : Int32) = (-1) → WP g C S 96 50 [some (.int x0), some (.int x1), some (.int x2), l3] [] σ Q) ∧ (¬ ((x1 : Int32) = (-1)) → (((x0 >>> ((8 * x2) &&& 31)) &&& 255 : Int32) = 0 → WP g C S 96 44 [some (.int x0), some (.int x1), some (.int x2), some (.int ((x0 >>> ((8 * x2) &&& 31)) &&& 255))] [] σ Q) ∧ (¬ (((x0 >>> ((8 * x2) &&& 31)) &&& 255 : Int32) = 0) → WP g C S 95 0 [some (.int ((x0 >>> ((8 * x2) &&& 31)) &&& 255))] [] σ (KK g C S 96 33 [some (.int x0), some (.int x1), some (.int x2), some (.int ((x0 >>> ((8 * x2) &&& 31)) &&& 255))] [] Q false))))) :
    WP g C S 96 4 [some (.int x0), some (.int x1), some (.int x2), l3] [] σ Q := by
  refine r_g (pc' := 5) (ls' := [some (.int x0), some (.int x1), some (.int x2), l3]) (st' := [.int x2]) dX7_countOf_4 (fun _ => rfl) ?_
  refine r_ic (v := 4) dX7_countOf_5 (by decide) ?_
  obtain ⟨h1, h2⟩ := h
  refine r_icmp (t := 50) dX7_countOf_6 (by decide) c_ge (fun c => ?_) (fun c => ?_)
  · have h := h1 c
    exact h
  · have h := h2 c
    refine r_g (pc' := 10) (ls' := [some (.int x0), some (.int x1), some (.int x2), l3]) (st' := [.int x1]) dX7_countOf_9 (fun _ => rfl) ?_
    refine r_ic (v := -1) dX7_countOf_10 (by decide) ?_
    obtain ⟨h1, h2⟩ := h
    refine r_icmp (t := 50) dX7_countOf_11 (by decide) c_eq (fun c => ?_) (fun c => ?_)
    · have h := h1 c
      exact h
    · have h := h2 c
      refine r_g (pc' := 15) (ls' := [some (.int x0), some (.int x1), some (.int x2), l3]) (st' := [.int x0]) dX7_countOf_14 (fun _ => rfl) ?_
      refine r_bi (v := 8) dX7_countOf_15 (by decide) ?_
      refine r_g (pc' := 18) (ls' := [some (.int x0), some (.int x1), some (.int x2), l3]) (st' := [.int x2, .int 8, .int x0]) dX7_countOf_17 (fun _ => rfl) ?_
      refine r_g (pc' := 19) (ls' := [some (.int x0), some (.int x1), some (.int x2), l3]) (st' := [.int (8 * x2), .int x0]) dX7_countOf_18 (fun _ => rfl) ?_
      refine r_g (pc' := 20) (ls' := [some (.int x0), some (.int x1), some (.int x2), l3]) (st' := [.int (x0 >>> ((8 * x2) &&& 31))]) dX7_countOf_19 (fun _ => rfl) ?_
      refine r_si (v := 255) dX7_countOf_20 (by decide) ?_
      refine r_g (pc' := 24) (ls' := [some (.int x0), some (.int x1), some (.int x2), l3]) (st' := [.int ((x0 >>> ((8 * x2) &&& 31)) &&& 255)]) dX7_countOf_23 (fun _ => rfl) ?_
      refine r_g (pc' := 25) (ls' := [some (.int x0), some (.int x1), some (.int x2), some (.int ((x0 >>> ((8 * x2) &&& 31)) &&& 255))]) (st' := []) dX7_countOf_24 (fun _ => rfl) ?_
      refine r_g (pc' := 26) (ls' := [some (.int x0), some (.int x1), some (.int x2), some (.int ((x0 >>> ((8 * x2) &&& 31)) &&& 255))]) (st' := [.int ((x0 >>> ((8 * x2) &&& 31)) &&& 255)]) dX7_countOf_25 (fun _ => rfl) ?_
      obtain ⟨h1, h2⟩ := h
      refine r_if (t := 44) dX7_countOf_26 (by decide) c_eq (fun c => ?_) (fun c => ?_)
      · have h := h1 c
        exact h
      · have h := h2 c
        refine r_g (pc' := 30) (ls' := [some (.int x0), some (.int x1), some (.int x2), some (.int ((x0 >>> ((8 * x2) &&& 31)) &&& 255))]) (st' := [.int ((x0 >>> ((8 * x2) &&& 31)) &&& 255)]) dX7_countOf_29 (fun _ => rfl) ?_
        exact r_call (th := false) dX7_countOf_30 (fun _ => ex_calS rfl (by decide)) rfl (Nat.le_of_ble_eq_true rfl) (Nat.le_of_ble_eq_true rfl) (Nat.le_of_ble_eq_true rfl) rfl rfl rfl rfl (fun q => nomatch q) h
theorem b96_33 {g : Nat → Nat} {C S : Nat} {σ : PS} {Q : Rs → PS → Prop} {x0 : Int32} {x1 : Int32} {x2 : Int32} {l3 : Option Value} {u0 : Int32}
    (h : ((u0 : Int32) = 0 → WP g C S 96 43 [some (.int x0), some (.int x1), some (.int x2), l3] [.int (-1)] σ Q) ∧ (¬ ((u0 : Int32) = 0) → WP g C S 96 43 [some (.int x0), some (.int x1), some (.int x2), l3] [.int (x1 + 1)] σ Q)) :
    WP g C S 96 33 [some (.int x0), some (.int x1), some (.int x2), l3] [.int u0] σ Q := by
  obtain ⟨h1, h2⟩ := h
  refine r_if (t := 42) dX7_countOf_33 (by decide) c_eq (fun c => ?_) (fun c => ?_)
  · have h := h1 c
    refine r_ic (v := -1) dX7_countOf_42 (by decide) ?_
    exact h
  · have h := h2 c
    refine r_g (pc' := 37) (ls' := [some (.int x0), some (.int x1), some (.int x2), l3]) (st' := [.int x1]) dX7_countOf_36 (fun _ => rfl) ?_
    refine r_ic (v := 1) dX7_countOf_37 (by decide) ?_
    refine r_g (pc' := 39) (ls' := [some (.int x0), some (.int x1), some (.int x2), l3]) (st' := [.int (x1 + 1)]) dX7_countOf_38 (fun _ => rfl) ?_
    refine r_goto (t := 43) dX7_countOf_39 (by decide) ?_
    exact h
theorem b96_43 {g : Nat → Nat} {C S : Nat} {σ : PS} {Q : Rs → PS → Prop} {x0 : Int32} {l1 : Option Value} {x2 : Int32} {l3 : Option Value} {u0 : Int32}
    (h : WP g C S 96 44 [some (.int x0), some (.int u0), some (.int x2), l3] [] σ Q) :
    WP g C S 96 43 [some (.int x0), l1, some (.int x2), l3] [.int u0] σ Q := by
  refine r_g (pc' := 44) (ls' := [some (.int x0), some (.int u0), some (.int x2), l3]) (st' := []) dX7_countOf_43 (fun _ => rfl) ?_
  exact h
theorem b96_44 {g : Nat → Nat} {C S : Nat} {σ : PS} {Q : Rs → PS → Prop} {x0 : Int32} {x1 : Int32} {x2 : Int32} {l3 : Option Value}
    (h : WP g C S 96 4 [some (.int x0), some (.int x1), some (.int (x2 + 1)), l3] [] σ Q) :
    WP g C S 96 44 [some (.int x0), some (.int x1), some (.int x2), l3] [] σ Q := by
  refine r_inc (v := 1) (ls' := [some (.int x0), some (.int x1), some (.int (x2 + 1)), l3]) dX7_countOf_44 rfl (Nat.le_of_ble_eq_true rfl) (by decide) rfl ?_
  refine r_goto (t := 4) dX7_countOf_47 (by decide) ?_
  exact h
theorem b96_50 {g : Nat → Nat} {C S : Nat} {σ : PS} {Q : Rs → PS → Prop} {l0 : Option Value} {x1 : Int32} {l2 : Option Value} {l3 : Option Value}
    (h : Q (Sum.inl (some (.int x1))) σ) :
    WP g C S 96 50 [l0, some (.int x1), l2, l3] [] σ Q := by
  refine r_g (pc' := 51) (ls' := [l0, some (.int x1), l2, l3]) (st' := [.int x1]) dX7_countOf_50 (fun _ => rfl) ?_
  exact r_ret dX7_countOf_51 rfl h
theorem b97_0 {g : Nat → Nat} {C S : Nat} {σ : PS} {Q : Rs → PS → Prop} {r0 : Nat} {x1 : Int32} {x2 : Int32} {l3 : Option Value} {l4 : Option Value} {l5 : Option Value}
    (h : WP g C S 97 5 [some (.ref r0), some (.int x1), some (.int x2), some (.int 0), some (.int 0), l5] [] σ Q) :
    WP g C S 97 0 [some (.ref r0), some (.int x1), some (.int x2), l3, l4, l5] [] σ Q := by
  refine r_ic (v := 0) dX7_addTo_0 (by decide) ?_
  refine r_g (pc' := 2) (ls' := [some (.ref r0), some (.int x1), some (.int x2), some (.int 0), l4, l5]) (st' := []) dX7_addTo_1 (fun _ => rfl) ?_
  refine r_ic (v := 0) dX7_addTo_2 (by decide) ?_
  refine r_g (pc' := 5) (ls' := [some (.ref r0), some (.int x1), some (.int x2), some (.int 0), some (.int 0), l5]) (st' := []) dX7_addTo_3 (fun _ => rfl) ?_
  exact h
theorem b97_5 {g : Nat → Nat} {C S : Nat} {σ : PS} {Q : Rs → PS → Prop} {r0 : Nat} {x1 : Int32} {x2 : Int32} {x3 : Int32} {x4 : Int32} {l5 : Option Value}
    (h : ((4 : Int32) ≤ x4 → Q (Sum.inl none) σ) ∧ (¬ ((4 : Int32) ≤ x4) → (((x2 >>> ((8 * x4) &&& 31)) &&& 255 : Int32) = 0 → WP g C S 97 39 [some (.ref r0), some (.int x1), some (.int x2), some (.int x3), some (.int x4), some (.int ((x2 >>> ((8 * x4) &&& 31)) &&& 255))] [] σ Q) ∧ (¬ (((x2 >>> ((8 * x4) &&& 31)) &&& 255 : Int32) = 0) → ∃ n1 : Nat, x1 + x3 = nI n1 ∧ n1 < 2147483648 ∧ zK σ r0 = 101 ∧ n1 < zL σ r0 ∧ (∀ τ2, τ2 = stI σ r0 n1 ((x2 >>> ((8 * x4) &&& 31)) &&& 255) → WP g C S 97 39 [some (.ref r0), some (.int x1), some (.int x2), some (.int (x3 + 1)), some (.int x4), some (.int ((x2 >>> ((8 * x4) &&& 31)) &&& 255))] [] τ2 Q)))) :
    WP g C S 97 5 [some (.ref r0), some (.int x1), some (.int x2), some (.int x3), some (.int x4), l5] [] σ Q := by
  refine r_g (pc' := 7) (ls' := [some (.ref r0), some (.int x1), some (.int x2), some (.int x3), some (.int x4), l5]) (st' := [.int x4]) dX7_addTo_5 (fun _ => rfl) ?_
  refine r_ic (v := 4) dX7_addTo_7 (by decide) ?_
  obtain ⟨h1, h2⟩ := h
  refine r_icmp (t := 45) dX7_addTo_8 (by decide) c_ge (fun c => ?_) (fun c => ?_)
  · have h := h1 c
    exact r_vret dX7_addTo_45 rfl h
  · have h := h2 c
    refine r_g (pc' := 12) (ls' := [some (.ref r0), some (.int x1), some (.int x2), some (.int x3), some (.int x4), l5]) (st' := [.int x2]) dX7_addTo_11 (fun _ => rfl) ?_
    refine r_bi (v := 8) dX7_addTo_12 (by decide) ?_
    refine r_g (pc' := 16) (ls' := [some (.ref r0), some (.int x1), some (.int x2), some (.int x3), some (.int x4), l5]) (st' := [.int x4, .int 8, .int x2]) dX7_addTo_14 (fun _ => rfl) ?_
    refine r_g (pc' := 17) (ls' := [some (.ref r0), some (.int x1), some (.int x2), some (.int x3), some (.int x4), l5]) (st' := [.int (8 * x4), .int x2]) dX7_addTo_16 (fun _ => rfl) ?_
    refine r_g (pc' := 18) (ls' := [some (.ref r0), some (.int x1), some (.int x2), some (.int x3), some (.int x4), l5]) (st' := [.int (x2 >>> ((8 * x4) &&& 31))]) dX7_addTo_17 (fun _ => rfl) ?_
    refine r_si (v := 255) dX7_addTo_18 (by decide) ?_
    refine r_g (pc' := 22) (ls' := [some (.ref r0), some (.int x1), some (.int x2), some (.int x3), some (.int x4), l5]) (st' := [.int ((x2 >>> ((8 * x4) &&& 31)) &&& 255)]) dX7_addTo_21 (fun _ => rfl) ?_
    refine r_g (pc' := 24) (ls' := [some (.ref r0), some (.int x1), some (.int x2), some (.int x3), some (.int x4), some (.int ((x2 >>> ((8 * x4) &&& 31)) &&& 255))]) (st' := []) dX7_addTo_22 (fun _ => rfl) ?_
    refine r_g (pc' := 26) (ls' := [some (.ref r0), some (.int x1), some (.int x2), some (.int x3), some (.int x4), some (.int ((x2 >>> ((8 * x4) &&& 31)) &&& 255))]) (st' := [.int ((x2 >>> ((8 * x4) &&& 31)) &&& 255)]) dX7_addTo_24 (fun _ => rfl) ?_
    obtain ⟨h1, h2⟩ := h
    refine r_if (t := 39) dX7_addTo_26 (by decide) c_eq (fun c => ?_) (fun c => ?_)
    · have h := h1 c
      exact h
    · have h := h2 c
      refine r_g (pc' := 30) (ls' := [some (.ref r0), some (.int x1), some (.int x2), some (.int x3), some (.int x4), some (.int ((x2 >>> ((8 * x4) &&& 31)) &&& 255))]) (st' := [.ref r0]) dX7_addTo_29 (fun _ => rfl) ?_
      refine r_g (pc' := 31) (ls' := [some (.ref r0), some (.int x1), some (.int x2), some (.int x3), some (.int x4), some (.int ((x2 >>> ((8 * x4) &&& 31)) &&& 255))]) (st' := [.int x1, .ref r0]) dX7_addTo_30 (fun _ => rfl) ?_
      refine r_g (pc' := 32) (ls' := [some (.ref r0), some (.int x1), some (.int x2), some (.int x3), some (.int x4), some (.int ((x2 >>> ((8 * x4) &&& 31)) &&& 255))]) (st' := [.int x3, .int x1, .ref r0]) dX7_addTo_31 (fun _ => rfl) ?_
      refine r_g (pc' := 33) (ls' := [some (.ref r0), some (.int x1), some (.int x2), some (.int x3), some (.int x4), some (.int ((x2 >>> ((8 * x4) &&& 31)) &&& 255))]) (st' := [.int (x1 + x3), .ref r0]) dX7_addTo_32 (fun _ => rfl) ?_
      refine r_g (pc' := 35) (ls' := [some (.ref r0), some (.int x1), some (.int x2), some (.int x3), some (.int x4), some (.int ((x2 >>> ((8 * x4) &&& 31)) &&& 255))]) (st' := [.int ((x2 >>> ((8 * x4) &&& 31)) &&& 255), .int (x1 + x3), .ref r0]) dX7_addTo_33 (fun _ => rfl) ?_
      obtain ⟨n1, hj, hn, hK, hL, h⟩ := h
      refine r_iast dX7_addTo_35 hj hn hK hL ?_
      generalize eτ2 : stI σ r0 n1 ((x2 >>> ((8 * x4) &&& 31)) &&& 255) = τ2
      replace h := h _ eτ2.symm
      refine r_inc (v := 1) (ls' := [some (.ref r0), some (.int x1), some (.int x2), some (.int (x3 + 1)), some (.int x4), some (.int ((x2 >>> ((8 * x4) &&& 31)) &&& 255))]) dX7_addTo_36 rfl (Nat.le_of_ble_eq_true rfl) (by decide) rfl ?_
      exact h
theorem b97_39 {g : Nat → Nat} {C S : Nat} {σ : PS} {Q : Rs → PS → Prop} {r0 : Nat} {x1 : Int32} {x2 : Int32} {x3 : Int32} {x4 : Int32} {l5 : Option Value}
    (h : WP g C S 97 5 [some (.ref r0), some (.int x1), some (.int x2), some (.int x3), some (.int (x4 + 1)), l5] [] σ Q) :
    WP g C S 97 39 [some (.ref r0), some (.int x1), some (.int x2), some (.int x3), some (.int x4), l5] [] σ Q := by
  refine r_inc (v := 1) (ls' := [some (.ref r0), some (.int x1), some (.int x2), some (.int x3), some (.int (x4 + 1)), l5]) dX7_addTo_39 rfl (Nat.le_of_ble_eq_true rfl) (by decide) rfl ?_
  refine r_goto (t := 5) dX7_addTo_42 (by decide) ?_
  exact h
theorem b98_0 {g : Nat → Nat} {C S : Nat} {σ : PS} {Q : Rs → PS → Prop} {r0 : Nat} {x1 : Int32} {x2 : Int32} {l3 : Option Value}
    (h : WP g C S 96 0 [some (.int x2), none, none, none] [] σ (KK g C S 98 4 [some (.ref r0), some (.int x1), some (.int x2), l3] [] Q false)) :
    WP g C S 98 0 [some (.ref r0), some (.int x1), some (.int x2), l3] [] σ Q := by
  refine r_g (pc' := 1) (ls' := [some (.ref r0), some (.int x1), some (.int x2), l3]) (st' := [.int x2]) dX7_key_0 (fun _ => rfl) ?_
  exact r_call (th := false) dX7_key_1 (fun _ => ex_calS rfl (by decide)) rfl (Nat.le_of_ble_eq_true rfl) (Nat.le_of_ble_eq_true rfl) (Nat.le_of_ble_eq_true rfl) rfl rfl rfl rfl (fun q => nomatch q) h
theorem b98_4 {g : Nat → Nat} {C S : Nat} {σ : PS} {Q : Rs → PS → Prop} {r0 : Nat} {x1 : Int32} {x2 : Int32} {l3 : Option Value} {u0 : Int32}
    (h : zK σ r0 = 9 ∧ WP g C S 93 0 [some (.ref r0), some (.int x1)] [] σ (KK g C S 98 11 [some (.ref r0), some (.int x1), some (.int x2), some (.int u0)] [.ref r0] Q false)) :
    WP g C S 98 4 [some (.ref r0), some (.int x1), some (.int x2), l3] [.int u0] σ Q := by
  refine r_g (pc' := 5) (ls' := [some (.ref r0), some (.int x1), some (.int x2), some (.int u0)]) (st' := []) dX7_key_4 (fun _ => rfl) ?_
  refine r_g (pc' := 6) (ls' := [some (.ref r0), some (.int x1), some (.int x2), some (.int u0)]) (st' := [.ref r0]) dX7_key_5 (fun _ => rfl) ?_
  refine r_g (pc' := 7) (ls' := [some (.ref r0), some (.int x1), some (.int x2), some (.int u0)]) (st' := [.ref r0, .ref r0]) dX7_key_6 (fun _ => rfl) ?_
  refine r_g (pc' := 8) (ls' := [some (.ref r0), some (.int x1), some (.int x2), some (.int u0)]) (st' := [.int x1, .ref r0, .ref r0]) dX7_key_7 (fun _ => rfl) ?_
  obtain ⟨hK, h⟩ := h
  exact r_call (th := false) dX7_key_8 (fun _ => ex_calV rfl (by decide)) rfl (Nat.le_of_ble_eq_true rfl) (Nat.le_of_ble_eq_true rfl) (Nat.le_of_ble_eq_true rfl) (rcv0 rfl rfl (by decide) hK) rfl rfl rfl (fun q => nomatch q) h
theorem b98_11 {g : Nat → Nat} {C S : Nat} {σ : PS} {Q : Rs → PS → Prop} {r0 : Nat} {x1 : Int32} {x2 : Int32} {x3 : Int32} {u0 : Int32} {w1 : Nat}
    (h : (¬ (u0 : Int32) = 0 → (¬ (x3 : Int32) = (-1) → zK σ r0 = 9 ∧ ∃ b1, zP σ r0 3 = some b1 ∧ (∃ n2 : Nat, x1 = nI n2 ∧ n2 < 2147483648 ∧ (zK σ b1 = 101 ∨ zK σ b1 = 1002) ∧ n2 < zL σ b1 ∧ ((((zI σ b1 n2) + x3 : Int32) ≤ 16 → WP g C S 98 45 [some (.ref r0), some (.int x1), some (.int x2), some (.int x3)] [.int 0, .ref w1] σ Q) ∧ (¬ (((zI σ b1 n2) + x3 : Int32) ≤ 16) → WP g C S 98 45 [some (.ref r0), some (.int x1), some (.int x2), some (.int x3)] [.int 3, .ref w1] σ Q)))) ∧ (¬ (¬ (x3 : Int32) = (-1)) → WP g C S 98 45 [some (.ref r0), some (.int x1), some (.int x2), some (.int x3)] [.int 2, .ref w1] σ Q)) ∧ (¬ (¬ (u0 : Int32) = 0) → WP g C S 98 45 [some (.ref r0), some (.int x1), some (.int x2), some (.int x3)] [.int 1, .ref w1] σ Q)) :
    WP g C S 98 11 [some (.ref r0), some (.int x1), some (.int x2), some (.int x3)] [.int u0, .ref w1] σ Q := by
  obtain ⟨h1, h2⟩ := h
  refine r_if (t := 18) dX7_key_11 (by decide) c_ne (fun c => ?_) (fun c => ?_)
  · have h := h1 c
    refine r_g (pc' := 19) (ls' := [some (.ref r0), some (.int x1), some (.int x2), some (.int x3)]) (st' := [.int x3, .ref w1]) dX7_key_18 (fun _ => rfl) ?_
    refine r_ic (v := -1) dX7_key_19 (by decide) ?_
    obtain ⟨h1, h2⟩ := h
    refine r_icmp (t := 27) dX7_key_20 (by decide) c_ne (fun c => ?_) (fun c => ?_)
    · have h := h1 c
      refine r_g (pc' := 28) (ls' := [some (.ref r0), some (.int x1), some (.int x2), some (.int x3)]) (st' := [.ref r0, .ref w1]) dX7_key_27 (fun _ => rfl) ?_
      obtain ⟨hK, b1, hP, h⟩ := h
      refine r_getP dX7_key_28 rfl (by decide) rfl hK hP ?_
      refine r_g (pc' := 32) (ls' := [some (.ref r0), some (.int x1), some (.int x2), some (.int x3)]) (st' := [.int x1, .ref b1, .ref w1]) dX7_key_31 (fun _ => rfl) ?_
      obtain ⟨n2, hj, hn, hK, hL, h⟩ := h
      refine r_iald dX7_key_32 hj hn hK hL ?_
      refine r_g (pc' := 34) (ls' := [some (.ref r0), some (.int x1), some (.int x2), some (.int x3)]) (st' := [.int x3, .int (zI σ b1 n2), .ref w1]) dX7_key_33 (fun _ => rfl) ?_
      refine r_g (pc' := 35) (ls' := [some (.ref r0), some (.int x1), some (.int x2), some (.int x3)]) (st' := [.int ((zI σ b1 n2) + x3), .ref w1]) dX7_key_34 (fun _ => rfl) ?_
      refine r_bi (v := 16) dX7_key_35 (by decide) ?_
      obtain ⟨h1, h2⟩ := h
      refine r_icmp (t := 44) dX7_key_37 (by decide) c_le (fun c => ?_) (fun c => ?_)
      · have h := h1 c
        refine r_ic (v := 0) dX7_key_44 (by decide) ?_
        exact h
      · have h := h2 c
        refine r_ic (v := 3) dX7_key_40 (by decide) ?_
        refine r_goto (t := 45) dX7_key_41 (by decide) ?_
        exact h
    · have h := h2 c
      refine r_ic (v := 2) dX7_key_23 (by decide) ?_
      refine r_goto (t := 45) dX7_key_24 (by decide) ?_
      exact h
  · have h := h2 c
    refine r_ic (v := 1) dX7_key_14 (by decide) ?_
    refine r_goto (t := 45) dX7_key_15 (by decide) ?_
    exact h
theorem b98_45 {g : Nat → Nat} {C S : Nat} {σ : PS} {Q : Rs → PS → Prop} {r0 : Nat} {x1 : Int32} {x2 : Int32} {x3 : Int32} {u0 : Int32} {w1 : Nat}
    (h : zK σ w1 = 9 ∧ (∀ τ1, τ1 = stI σ w1 0 u0 → zK τ1 r0 = 9 ∧ (¬ (zI τ1 r0 0 : Int32) = 0 → WP g C S 98 88 [some (.ref r0), some (.int x1), some (.int x2), some (.int x3)] [] τ1 Q) ∧ (¬ (¬ (zI τ1 r0 0 : Int32) = 0) → zK τ1 r0 = 9 ∧ ∃ b2, zP τ1 r0 4 = some b2 ∧ (zK τ1 r0 = 9 ∧ ∃ b3, zP τ1 r0 3 = some b3 ∧ (∃ n4 : Nat, x1 = nI n4 ∧ n4 < 2147483648 ∧ (zK τ1 b3 = 101 ∨ zK τ1 b3 = 1002) ∧ n4 < zL τ1 b3 ∧ (WP g C S 97 0 [some (.ref b2), some (.int ((16 * x1) + (zI τ1 b3 n4))), some (.int x2), none, none, none] [] τ1 (KK g C S 98 74 [some (.ref r0), some (.int x1), some (.int x2), some (.int x3)] [] Q false))))))) :
    WP g C S 98 45 [some (.ref r0), some (.int x1), some (.int x2), some (.int x3)] [.int u0, .ref w1] σ Q := by
  obtain ⟨hK, h⟩ := h
  refine r_putI dX7_key_45 rfl (by decide) (Or.inl rfl) rfl (Or.inl rfl) hK ?_
  generalize eτ1 : stI σ w1 0 u0 = τ1
  replace h := h _ eτ1.symm
  refine r_g (pc' := 49) (ls' := [some (.ref r0), some (.int x1), some (.int x2), some (.int x3)]) (st' := [.ref r0]) dX7_key_48 (fun _ => rfl) ?_
  obtain ⟨hK, h⟩ := h
  refine r_getI dX7_key_49 rfl (by decide) rfl hK ?_
  obtain ⟨h1, h2⟩ := h
  refine r_if (t := 88) dX7_key_52 (by decide) c_ne (fun c => ?_) (fun c => ?_)
  · have h := h1 c
    exact h
  · have h := h2 c
    refine r_g (pc' := 56) (ls' := [some (.ref r0), some (.int x1), some (.int x2), some (.int x3)]) (st' := [.ref r0]) dX7_key_55 (fun _ => rfl) ?_
    obtain ⟨hK, b2, hP, h⟩ := h
    refine r_getP dX7_key_56 rfl (by decide) rfl hK hP ?_
    refine r_bi (v := 16) dX7_key_59 (by decide) ?_
    refine r_g (pc' := 62) (ls' := [some (.ref r0), some (.int x1), some (.int x2), some (.int x3)]) (st' := [.int x1, .int 16, .ref b2]) dX7_key_61 (fun _ => rfl) ?_
    refine r_g (pc' := 63) (ls' := [some (.ref r0), some (.int x1), some (.int x2), some (.int x3)]) (st' := [.int (16 * x1), .ref b2]) dX7_key_62 (fun _ => rfl) ?_
    refine r_g (pc' := 64) (ls' := [some (.ref r0), some (.int x1), some (.int x2), some (.int x3)]) (st' := [.ref r0, .int (16 * x1), .ref b2]) dX7_key_63 (fun _ => rfl) ?_
    obtain ⟨hK, b3, hP, h⟩ := h
    refine r_getP dX7_key_64 rfl (by decide) rfl hK hP ?_
    refine r_g (pc' := 68) (ls' := [some (.ref r0), some (.int x1), some (.int x2), some (.int x3)]) (st' := [.int x1, .ref b3, .int (16 * x1), .ref b2]) dX7_key_67 (fun _ => rfl) ?_
    obtain ⟨n4, hj, hn, hK, hL, h⟩ := h
    refine r_iald dX7_key_68 hj hn hK hL ?_
    refine r_g (pc' := 70) (ls' := [some (.ref r0), some (.int x1), some (.int x2), some (.int x3)]) (st' := [.int ((16 * x1) + (zI τ1 b3 n4)), .ref b2]) dX7_key_69 (fun _ => rfl) ?_
    refine r_g (pc' := 71) (ls' := [some (.ref r0), some (.int x1), some (.int x2), some (.int x3)]) (st' := [.int x2, .int ((16 * x1) + (zI τ1 b3 n4)), .ref b2]) dX7_key_70 (fun _ => rfl) ?_
    exact r_call (th := false) dX7_key_71 (fun _ => ex_calS rfl (by decide)) rfl (Nat.le_of_ble_eq_true rfl) (Nat.le_of_ble_eq_true rfl) (Nat.le_of_ble_eq_true rfl) rfl rfl rfl rfl (fun q => nomatch q) h
theorem b98_74 {g : Nat → Nat} {C S : Nat} {σ : PS} {Q : Rs → PS → Prop} {r0 : Nat} {x1 : Int32} {l2 : Option Value} {x3 : Int32}
    (h : zK σ r0 = 9 ∧ ∃ b1, zP σ r0 3 = some b1 ∧ (zK σ r0 = 9 ∧ ∃ b2, zP σ r0 3 = some b2 ∧ (∃ n3 : Nat, x1 = nI n3 ∧ n3 < 2147483648 ∧ (zK σ b2 = 101 ∨ zK σ b2 = 1002) ∧ n3 < zL σ b2 ∧ (∃ n4 : Nat, x1 = nI n4 ∧ n4 < 2147483648 ∧ zK σ b1 = 101 ∧ n4 < zL σ b1 ∧ (∀ τ5, τ5 = stI σ b1 n4 ((zI σ b2 n3) + x3) → WP g C S 98 88 [some (.ref r0), some (.int x1), l2, some (.int x3)] [] τ5 Q))))) :
    WP g C S 98 74 [some (.ref r0), some (.int x1), l2, some (.int x3)] [] σ Q := by
  refine r_g (pc' := 75) (ls' := [some (.ref r0), some (.int x1), l2, some (.int x3)]) (st' := [.ref r0]) dX7_key_74 (fun _ => rfl) ?_
  obtain ⟨hK, b1, hP, h⟩ := h
  refine r_getP dX7_key_75 rfl (by decide) rfl hK hP ?_
  refine r_g (pc' := 79) (ls' := [some (.ref r0), some (.int x1), l2, some (.int x3)]) (st' := [.int x1, .ref b1]) dX7_key_78 (fun _ => rfl) ?_
  refine r_g (pc' := 80) (ls' := [some (.ref r0), some (.int x1), l2, some (.int x3)]) (st' := [.ref r0, .int x1, .ref b1]) dX7_key_79 (fun _ => rfl) ?_
  obtain ⟨hK, b2, hP, h⟩ := h
  refine r_getP dX7_key_80 rfl (by decide) rfl hK hP ?_
  refine r_g (pc' := 84) (ls' := [some (.ref r0), some (.int x1), l2, some (.int x3)]) (st' := [.int x1, .ref b2, .int x1, .ref b1]) dX7_key_83 (fun _ => rfl) ?_
  obtain ⟨n3, hj, hn, hK, hL, h⟩ := h
  refine r_iald dX7_key_84 hj hn hK hL ?_
  refine r_g (pc' := 86) (ls' := [some (.ref r0), some (.int x1), l2, some (.int x3)]) (st' := [.int x3, .int (zI σ b2 n3), .int x1, .ref b1]) dX7_key_85 (fun _ => rfl) ?_
  refine r_g (pc' := 87) (ls' := [some (.ref r0), some (.int x1), l2, some (.int x3)]) (st' := [.int ((zI σ b2 n3) + x3), .int x1, .ref b1]) dX7_key_86 (fun _ => rfl) ?_
  obtain ⟨n4, hj, hn, hK, hL, h⟩ := h
  refine r_iast dX7_key_87 hj hn hK hL ?_
  generalize eτ5 : stI σ b1 n4 ((zI σ b2 n3) + x3) = τ5
  replace h := h _ eτ5.symm
  exact h
theorem b98_88 {g : Nat → Nat} {C S : Nat} {σ : PS} {Q : Rs → PS → Prop} {l0 : Option Value} {l1 : Option Value} {l2 : Option Value} {l3 : Option Value}
    (h : Q (Sum.inl none) σ) :
    WP g C S 98 88 [l0, l1, l2, l3] [] σ Q := by
  exact r_vret dX7_key_88 rfl h
theorem b99_0 {g : Nat → Nat} {C S : Nat} {σ : PS} {Q : Rs → PS → Prop} {r0 : Nat} {x1 : Int32} {x2 : Int32} {x3 : Int32} {l4 : Option Value} {l5 : Option Value}
    (h : WP g C S 96 0 [some (.int x3), none, none, none] [] σ (KK g C S 99 4 [some (.ref r0), some (.int x1), some (.int x2), some (.int x3), l4, l5] [] Q false)) :
    WP g C S 99 0 [some (.ref r0), some (.int x1), some (.int x2), some (.int x3), l4, l5] [] σ Q := by
  refine r_g (pc' := 1) (ls' := [some (.ref r0), some (.int x1), some (.int x2), some (.int x3), l4, l5]) (st' := [.int x3]) dX7_field_0 (fun _ => rfl) ?_
  exact r_call (th := false) dX7_field_1 (fun _ => ex_calS rfl (by decide)) rfl (Nat.le_of_ble_eq_true rfl) (Nat.le_of_ble_eq_true rfl) (Nat.le_of_ble_eq_true rfl) rfl rfl rfl rfl (fun q => nomatch q) h
theorem b99_4 {g : Nat → Nat} {C S : Nat} {σ : PS} {Q : Rs → PS → Prop} {r0 : Nat} {x1 : Int32} {x2 : Int32} {x3 : Int32} {l4 : Option Value} {l5 : Option Value} {u0 : Int32}
    (h : zK σ r0 = 9 ∧ WP g C S 93 0 [some (.ref r0), some (.int x1)] [] σ (KK g C S 99 12 [some (.ref r0), some (.int x1), some (.int x2), some (.int x3), some (.int u0), l5] [.ref r0] Q false)) :
    WP g C S 99 4 [some (.ref r0), some (.int x1), some (.int x2), some (.int x3), l4, l5] [.int u0] σ Q := by
  refine r_g (pc' := 6) (ls' := [some (.ref r0), some (.int x1), some (.int x2), some (.int x3), some (.int u0), l5]) (st' := []) dX7_field_4 (fun _ => rfl) ?_
  refine r_g (pc' := 7) (ls' := [some (.ref r0), some (.int x1), some (.int x2), some (.int x3), some (.int u0), l5]) (st' := [.ref r0]) dX7_field_6 (fun _ => rfl) ?_
  refine r_g (pc' := 8) (ls' := [some (.ref r0), some (.int x1), some (.int x2), some (.int x3), some (.int u0), l5]) (st' := [.ref r0, .ref r0]) dX7_field_7 (fun _ => rfl) ?_
  refine r_g (pc' := 9) (ls' := [some (.ref r0), some (.int x1), some (.int x2), some (.int x3), some (.int u0), l5]) (st' := [.int x1, .ref r0, .ref r0]) dX7_field_8 (fun _ => rfl) ?_
  obtain ⟨hK, h⟩ := h
  exact r_call (th := false) dX7_field_9 (fun _ => ex_calV rfl (by decide)) rfl (Nat.le_of_ble_eq_true rfl) (Nat.le_of_ble_eq_true rfl) (Nat.le_of_ble_eq_true rfl) (rcv0 rfl rfl (by decide) hK) rfl rfl rfl (fun q => nomatch q) h
theorem b99_12 {g : Nat → Nat} {C S : Nat} {σ : PS} {Q : Rs → PS → Prop} {r0 : Nat} {x1 : Int32} {x2 : Int32} {x3 : Int32} {x4 : Int32} {l5 : Option Value} {u0 : Int32} {w1 : Nat}
    (h : (¬ (u0 : Int32) = 0 → ((x2 : Int32) < 0 → WP g C S 99 29 [some (.ref r0), some (.int x1), some (.int x2), some (.int x3), some (.int x4), l5] [.ref w1] σ Q) ∧ (¬ ((x2 : Int32) < 0) → ((x2 : Int32) ≤ 7 → (¬ (x4 : Int32) = (-1) → zK σ r0 = 9 ∧ ∃ b1, zP σ r0 5 = some b1 ∧ (∃ n2 : Nat, (8 * x1) + x2 = nI n2 ∧ n2 < 2147483648 ∧ (zK σ b1 = 101 ∨ zK σ b1 = 1002) ∧ n2 < zL σ b1 ∧ ((((zI σ b1 n2) + x4 : Int32) ≤ 80 → WP g C S 99 67 [some (.ref r0), some (.int x1), some (.int x2), some (.int x3), some (.int x4), l5] [.int 0, .ref w1] σ Q) ∧ (¬ (((zI σ b1 n2) + x4 : Int32) ≤ 80) → WP g C S 99 67 [some (.ref r0), some (.int x1), some (.int x2), some (.int x3), some (.int x4), l5] [.int 4, .ref w1] σ Q)))) ∧ (¬ (¬ (x4 : Int32) = (-1)) → WP g C S 99 67 [some (.ref r0), some (.int x1), some (.int x2), some (.int x3), some (.int x4), l5] [.int 3, .ref w1] σ Q)) ∧ (¬ ((x2 : Int32) ≤ 7) → WP g C S 99 29 [some (.ref r0), some (.int x1), some (.int x2), some (.int x3), some (.int x4), l5] [.ref w1] σ Q))) ∧ (¬ (¬ (u0 : Int32) = 0) → WP g C S 99 67 [some (.ref r0), some (.int x1), some (.int x2), some (.int x3), some (.int x4), l5] [.int 1, .ref w1] σ Q)) :
    WP g C S 99 12 [some (.ref r0), some (.int x1), some (.int x2), some (.int x3), some (.int x4), l5] [.int u0, .ref w1] σ Q := by
  obtain ⟨h1, h2⟩ := h
  refine r_if (t := 19) dX7_field_12 (by decide) c_ne (fun c => ?_) (fun c => ?_)
  · have h := h1 c
    refine r_g (pc' := 20) (ls' := [some (.ref r0), some (.int x1), some (.int x2), some (.int x3), some (.int x4), l5]) (st' := [.int x2, .ref w1]) dX7_field_19 (fun _ => rfl) ?_
    obtain ⟨h1, h2⟩ := h
    refine r_if (t := 29) dX7_field_20 (by decide) c_lt (fun c => ?_) (fun c => ?_)
    · have h := h1 c
      exact h
    · have h := h2 c
      refine r_g (pc' := 24) (ls' := [some (.ref r0), some (.int x1), some (.int x2), some (.int x3), some (.int x4), l5]) (st' := [.int x2, .ref w1]) dX7_field_23 (fun _ => rfl) ?_
      refine r_bi (v := 7) dX7_field_24 (by decide) ?_
      obtain ⟨h1, h2⟩ := h
      refine r_icmp (t := 33) dX7_field_26 (by decide) c_le (fun c => ?_) (fun c => ?_)
      · have h := h1 c
        refine r_g (pc' := 35) (ls' := [some (.ref r0), some (.int x1), some (.int x2), some (.int x3), some (.int x4), l5]) (st' := [.int x4, .ref w1]) dX7_field_33 (fun _ => rfl) ?_
        refine r_ic (v := -1) dX7_field_35 (by decide) ?_
        obtain ⟨h1, h2⟩ := h
        refine r_icmp (t := 43) dX7_field_36 (by decide) c_ne (fun c => ?_) (fun c => ?_)
        · have h := h1 c
          refine r_g (pc' := 44) (ls' := [some (.ref r0), some (.int x1), some (.int x2), some (.int x3), some (.int x4), l5]) (st' := [.ref r0, .ref w1]) dX7_field_43 (fun _ => rfl) ?_
          obtain ⟨hK, b1, hP, h⟩ := h
          refine r_getP dX7_field_44 rfl (by decide) rfl hK hP ?_
          refine r_bi (v := 8) dX7_field_47 (by decide) ?_
          refine r_g (pc' := 50) (ls' := [some (.ref r0), some (.int x1), some (.int x2), some (.int x3), some (.int x4), l5]) (st' := [.int x1, .int 8, .ref b1, .ref w1]) dX7_field_49 (fun _ => rfl) ?_
          refine r_g (pc' := 51) (ls' := [some (.ref r0), some (.int x1), some (.int x2), some (.int x3), some (.int x4), l5]) (st' := [.int (8 * x1), .ref b1, .ref w1]) dX7_field_50 (fun _ => rfl) ?_
          refine r_g (pc' := 52) (ls' := [some (.ref r0), some (.int x1), some (.int x2), some (.int x3), some (.int x4), l5]) (st' := [.int x2, .int (8 * x1), .ref b1, .ref w1]) dX7_field_51 (fun _ => rfl) ?_
          refine r_g (pc' := 53) (ls' := [some (.ref r0), some (.int x1), some (.int x2), some (.int x3), some (.int x4), l5]) (st' := [.int ((8 * x1) + x2), .ref b1, .ref w1]) dX7_field_52 (fun _ => rfl) ?_
          obtain ⟨n2, hj, hn, hK, hL, h⟩ := h
          refine r_iald dX7_field_53 hj hn hK hL ?_
          refine r_g (pc' := 56) (ls' := [some (.ref r0), some (.int x1), some (.int x2), some (.int x3), some (.int x4), l5]) (st' := [.int x4, .int (zI σ b1 n2), .ref w1]) dX7_field_54 (fun _ => rfl) ?_
          refine r_g (pc' := 57) (ls' := [some (.ref r0), some (.int x1), some (.int x2), some (.int x3), some (.int x4), l5]) (st' := [.int ((zI σ b1 n2) + x4), .ref w1]) dX7_field_56 (fun _ => rfl) ?_
          refine r_bi (v := 80) dX7_field_57 (by decide) ?_
          obtain ⟨h1, h2⟩ := h
          refine r_icmp (t := 66) dX7_field_59 (by decide) c_le (fun c => ?_) (fun c => ?_)
          · have h := h1 c
            refine r_ic (v := 0) dX7_field_66 (by decide) ?_
            exact h
          · have h := h2 c
            refine r_ic (v := 4) dX7_field_62 (by decide) ?_
            refine r_goto (t := 67) dX7_field_63 (by decide) ?_
            exact h
        · have h := h2 c
          refine r_ic (v := 3) dX7_field_39 (by decide) ?_
          refine r_goto (t := 67) dX7_field_40 (by decide) ?_
          exact h
      · have h := h2 c
        exact h
  · have h := h2 c
    refine r_ic (v := 1) dX7_field_15 (by decide) ?_
    refine r_goto (t := 67) dX7_field_16 (by decide) ?_
    exact h
theorem b99_29 {g : Nat → Nat} {C S : Nat} {σ : PS} {Q : Rs → PS → Prop} {r0 : Nat} {x1 : Int32} {x2 : Int32} {x3 : Int32} {x4 : Int32} {l5 : Option Value} {w0 : Nat}
    (h : WP g C S 99 67 [some (.ref r0), some (.int x1), some (.int x2), some (.int x3), some (.int x4), l5] [.int 2, .ref w0] σ Q) :
    WP g C S 99 29 [some (.ref r0), some (.int x1), some (.int x2), some (.int x3), some (.int x4), l5] [.ref w0] σ Q := by
  refine r_ic (v := 2) dX7_field_29 (by decide) ?_
  refine r_goto (t := 67) dX7_field_30 (by decide) ?_
  exact h
theorem b99_67 {g : Nat → Nat} {C S : Nat} {σ : PS} {Q : Rs → PS → Prop} {r0 : Nat} {x1 : Int32} {x2 : Int32} {x3 : Int32} {x4 : Int32} {l5 : Option Value} {u0 : Int32} {w1 : Nat}
    (h : zK σ w1 = 9 ∧ (∀ τ1, τ1 = stI σ w1 0 u0 → zK τ1 r0 = 9 ∧ (¬ (zI τ1 r0 0 : Int32) = 0 → WP g C S 99 123 [some (.ref r0), some (.int x1), some (.int x2), some (.int x3), some (.int x4), l5] [] τ1 Q) ∧ (¬ (¬ (zI τ1 r0 0 : Int32) = 0) → zK τ1 r0 = 9 ∧ ∃ b2, zP τ1 r0 6 = some b2 ∧ (zK τ1 r0 = 9 ∧ ∃ b3, zP τ1 r0 5 = some b3 ∧ (∃ n4 : Nat, (8 * x1) + x2 = nI n4 ∧ n4 < 2147483648 ∧ (zK τ1 b3 = 101 ∨ zK τ1 b3 = 1002) ∧ n4 < zL τ1 b3 ∧ (WP g C S 97 0 [some (.ref b2), some (.int ((80 * ((8 * x1) + x2)) + (zI τ1 b3 n4))), some (.int x3), none, none, none] [] τ1 (KK g C S 99 106 [some (.ref r0), some (.int x1), some (.int x2), some (.int x3), some (.int x4), some (.int ((8 * x1) + x2))] [] Q false))))))) :
    WP g C S 99 67 [some (.ref r0), some (.int x1), some (.int x2), some (.int x3), some (.int x4), l5] [.int u0, .ref w1] σ Q := by
  obtain ⟨hK, h⟩ := h
  refine r_putI dX7_field_67 rfl (by decide) (Or.inl rfl) rfl (Or.inl rfl) hK ?_
  generalize eτ1 : stI σ w1 0 u0 = τ1
  replace h := h _ eτ1.symm
  refine r_g (pc' := 71) (ls' := [some (.ref r0), some (.int x1), some (.int x2), some (.int x3), some (.int x4), l5]) (st' := [.ref r0]) dX7_field_70 (fun _ => rfl) ?_
  obtain ⟨hK, h⟩ := h
  refine r_getI dX7_field_71 rfl (by decide) rfl hK ?_
  obtain ⟨h1, h2⟩ := h
  refine r_if (t := 123) dX7_field_74 (by decide) c_ne (fun c => ?_) (fun c => ?_)
  · have h := h1 c
    exact h
  · have h := h2 c
    refine r_bi (v := 8) dX7_field_77 (by decide) ?_
    refine r_g (pc' := 80) (ls' := [some (.ref r0), some (.int x1), some (.int x2), some (.int x3), some (.int x4), l5]) (st' := [.int x1, .int 8]) dX7_field_79 (fun _ => rfl) ?_
    refine r_g (pc' := 81) (ls' := [some (.ref r0), some (.int x1), some (.int x2), some (.int x3), some (.int x4), l5]) (st' := [.int (8 * x1)]) dX7_field_80 (fun _ => rfl) ?_
    refine r_g (pc' := 82) (ls' := [some (.ref r0), some (.int x1), some (.int x2), some (.int x3), some (.int x4), l5]) (st' := [.int x2, .int (8 * x1)]) dX7_field_81 (fun _ => rfl) ?_
    refine r_g (pc' := 83) (ls' := [some (.ref r0), some (.int x1), some (.int x2), some (.int x3), some (.int x4), l5]) (st' := [.int ((8 * x1) + x2)]) dX7_field_82 (fun _ => rfl) ?_
    refine r_g (pc' := 85) (ls' := [some (.ref r0), some (.int x1), some (.int x2), some (.int x3), some (.int x4), some (.int ((8 * x1) + x2))]) (st' := []) dX7_field_83 (fun _ => rfl) ?_
    refine r_g (pc' := 86) (ls' := [some (.ref r0), some (.int x1), some (.int x2), some (.int x3), some (.int x4), some (.int ((8 * x1) + x2))]) (st' := [.ref r0]) dX7_field_85 (fun _ => rfl) ?_
    obtain ⟨hK, b2, hP, h⟩ := h
    refine r_getP dX7_field_86 rfl (by decide) rfl hK hP ?_
    refine r_bi (v := 80) dX7_field_89 (by decide) ?_
    refine r_g (pc' := 93) (ls' := [some (.ref r0), some (.int x1), some (.int x2), some (.int x3), some (.int x4), some (.int ((8 * x1) + x2))]) (st' := [.int ((8 * x1) + x2), .int 80, .ref b2]) dX7_field_91 (fun _ => rfl) ?_
    refine r_g (pc' := 94) (ls' := [some (.ref r0), some (.int x1), some (.int x2), some (.int x3), some (.int x4), some (.int ((8 * x1) + x2))]) (st' := [.int (80 * ((8 * x1) + x2)), .ref b2]) dX7_field_93 (fun _ => rfl) ?_
    refine r_g (pc' := 95) (ls' := [some (.ref r0), some (.int x1), some (.int x2), some (.int x3), some (.int x4), some (.int ((8 * x1) + x2))]) (st' := [.ref r0, .int (80 * ((8 * x1) + x2)), .ref b2]) dX7_field_94 (fun _ => rfl) ?_
    obtain ⟨hK, b3, hP, h⟩ := h
    refine r_getP dX7_field_95 rfl (by decide) rfl hK hP ?_
    refine r_g (pc' := 100) (ls' := [some (.ref r0), some (.int x1), some (.int x2), some (.int x3), some (.int x4), some (.int ((8 * x1) + x2))]) (st' := [.int ((8 * x1) + x2), .ref b3, .int (80 * ((8 * x1) + x2)), .ref b2]) dX7_field_98 (fun _ => rfl) ?_
    obtain ⟨n4, hj, hn, hK, hL, h⟩ := h
    refine r_iald dX7_field_100 hj hn hK hL ?_
    refine r_g (pc' := 102) (ls' := [some (.ref r0), some (.int x1), some (.int x2), some (.int x3), some (.int x4), some (.int ((8 * x1) + x2))]) (st' := [.int ((80 * ((8 * x1) + x2)) + (zI τ1 b3 n4)), .ref b2]) dX7_field_101 (fun _ => rfl) ?_
    refine r_g (pc' := 103) (ls' := [some (.ref r0), some (.int x1), some (.int x2), some (.int x3), some (.int x4), some (.int ((8 * x1) + x2))]) (st' := [.int x3, .int ((80 * ((8 * x1) + x2)) + (zI τ1 b3 n4)), .ref b2]) dX7_field_102 (fun _ => rfl) ?_
    exact r_call (th := false) dX7_field_103 (fun _ => ex_calS rfl (by decide)) rfl (Nat.le_of_ble_eq_true rfl) (Nat.le_of_ble_eq_true rfl) (Nat.le_of_ble_eq_true rfl) rfl rfl rfl rfl (fun q => nomatch q) h
theorem b99_106 {g : Nat → Nat} {C S : Nat} {σ : PS} {Q : Rs → PS → Prop} {r0 : Nat} {l1 : Option Value} {l2 : Option Value} {l3 : Option Value} {x4 : Int32} {x5 : Int32}
    (h : zK σ r0 = 9 ∧ ∃ b1, zP σ r0 5 = some b1 ∧ (zK σ r0 = 9 ∧ ∃ b2, zP σ r0 5 = some b2 ∧ (∃ n3 : Nat, x5 = nI n3 ∧ n3 < 2147483648 ∧ (zK σ b2 = 101 ∨ zK σ b2 = 1002) ∧ n3 < zL σ b2 ∧ (∃ n4 : Nat, x5 = nI n4 ∧ n4 < 2147483648 ∧ zK σ b1 = 101 ∧ n4 < zL σ b1 ∧ (∀ τ5, τ5 = stI σ b1 n4 ((zI σ b2 n3) + x4) → WP g C S 99 123 [some (.ref r0), l1, l2, l3, some (.int x4), some (.int x5)] [] τ5 Q))))) :
    WP g C S 99 106 [some (.ref r0), l1, l2, l3, some (.int x4), some (.int x5)] [] σ Q := by
  refine r_g (pc' := 107) (ls' := [some (.ref r0), l1, l2, l3, some (.int x4), some (.int x5)]) (st' := [.ref r0]) dX7_field_106 (fun _ => rfl) ?_
  obtain ⟨hK, b1, hP, h⟩ := h
  refine r_getP dX7_field_107 rfl (by decide) rfl hK hP ?_
  refine r_g (pc' := 112) (ls' := [some (.ref r0), l1, l2, l3, some (.int x4), some (.int x5)]) (st' := [.int x5, .ref b1]) dX7_field_110 (fun _ => rfl) ?_
  refine r_g (pc' := 113) (ls' := [some (.ref r0), l1, l2, l3, some (.int x4), some (.int x5)]) (st' := [.ref r0, .int x5, .ref b1]) dX7_field_112 (fun _ => rfl) ?_
  obtain ⟨hK, b2, hP, h⟩ := h
  refine r_getP dX7_field_113 rfl (by decide) rfl hK hP ?_
  refine r_g (pc' := 118) (ls' := [some (.ref r0), l1, l2, l3, some (.int x4), some (.int x5)]) (st' := [.int x5, .ref b2, .int x5, .ref b1]) dX7_field_116 (fun _ => rfl) ?_
  obtain ⟨n3, hj, hn, hK, hL, h⟩ := h
  refine r_iald dX7_field_118 hj hn hK hL ?_
  refine r_g (pc' := 121) (ls' := [some (.ref r0), l1, l2, l3, some (.int x4), some (.int x5)]) (st' := [.int x4, .int (zI σ b2 n3), .int x5, .ref b1]) dX7_field_119 (fun _ => rfl) ?_
  refine r_g (pc' := 122) (ls' := [some (.ref r0), l1, l2, l3, some (.int x4), some (.int x5)]) (st' := [.int ((zI σ b2 n3) + x4), .int x5, .ref b1]) dX7_field_121 (fun _ => rfl) ?_
  obtain ⟨n4, hj, hn, hK, hL, h⟩ := h
  refine r_iast dX7_field_122 hj hn hK hL ?_
  generalize eτ5 : stI σ b1 n4 ((zI σ b2 n3) + x4) = τ5
  replace h := h _ eτ5.symm
  exact h
theorem b99_123 {g : Nat → Nat} {C S : Nat} {σ : PS} {Q : Rs → PS → Prop} {l0 : Option Value} {l1 : Option Value} {l2 : Option Value} {l3 : Option Value} {l4 : Option Value} {l5 : Option Value}
    (h : Q (Sum.inl none) σ) :
    WP g C S 99 123 [l0, l1, l2, l3, l4, l5] [] σ Q := by
  exact r_vret dX7_field_123 rfl h
theorem b100_0 {g : Nat → Nat} {C S : Nat} {σ : PS} {Q : Rs → PS → Prop} {r0 : Nat} {x1 : Int32} {l2 : Option Value} {l3 : Option Value}
    (h : zK σ r0 = 9 ∧ WP g C S 93 0 [some (.ref r0), some (.int x1)] [] σ (KK g C S 100 6 [some (.ref r0), some (.int x1), l2, l3] [.ref r0] Q false)) :
    WP g C S 100 0 [some (.ref r0), some (.int x1), l2, l3] [] σ Q := by
  refine r_g (pc' := 1) (ls' := [some (.ref r0), some (.int x1), l2, l3]) (st' := [.ref r0]) dX7_cite_0 (fun _ => rfl) ?_
  refine r_g (pc' := 2) (ls' := [some (.ref r0), some (.int x1), l2, l3]) (st' := [.ref r0, .ref r0]) dX7_cite_1 (fun _ => rfl) ?_
  refine r_g (pc' := 3) (ls' := [some (.ref r0), some (.int x1), l2, l3]) (st' := [.int x1, .ref r0, .ref r0]) dX7_cite_2 (fun _ => rfl) ?_
  obtain ⟨hK, h⟩ := h
  exact r_call (th := false) dX7_cite_3 (fun _ => ex_calV rfl (by decide)) rfl (Nat.le_of_ble_eq_true rfl) (Nat.le_of_ble_eq_true rfl) (Nat.le_of_ble_eq_true rfl) (rcv0 rfl rfl (by decide) hK) rfl rfl rfl (fun q => nomatch q) h
theorem b100_6 {g : Nat → Nat} {C S : Nat} {σ : PS} {Q : Rs → PS → Prop} {r0 : Nat} {x1 : Int32} {l2 : Option Value} {l3 : Option Value} {u0 : Int32} {w1 : Nat}
    (h : (¬ (u0 : Int32) = 0 → zK σ r0 = 9 ∧ (¬ (zI σ r0 8 : Int32) = 60 → WP g C S 100 27 [some (.ref r0), some (.int x1), l2, l3] [.int 0, .ref w1] σ Q) ∧ (¬ (¬ (zI σ r0 8 : Int32) = 60) → WP g C S 100 27 [some (.ref r0), some (.int x1), l2, l3] [.int 2, .ref w1] σ Q)) ∧ (¬ (¬ (u0 : Int32) = 0) → WP g C S 100 27 [some (.ref r0), some (.int x1), l2, l3] [.int 1, .ref w1] σ Q)) :
    WP g C S 100 6 [some (.ref r0), some (.int x1), l2, l3] [.int u0, .ref w1] σ Q := by
  obtain ⟨h1, h2⟩ := h
  refine r_if (t := 13) dX7_cite_6 (by decide) c_ne (fun c => ?_) (fun c => ?_)
  · have h := h1 c
    refine r_g (pc' := 14) (ls' := [some (.ref r0), some (.int x1), l2, l3]) (st' := [.ref r0, .ref w1]) dX7_cite_13 (fun _ => rfl) ?_
    obtain ⟨hK, h⟩ := h
    refine r_getI dX7_cite_14 rfl (by decide) rfl hK ?_
    refine r_bi (v := 60) dX7_cite_17 (by decide) ?_
    obtain ⟨h1, h2⟩ := h
    refine r_icmp (t := 26) dX7_cite_19 (by decide) c_ne (fun c => ?_) (fun c => ?_)
    · have h := h1 c
      refine r_ic (v := 0) dX7_cite_26 (by decide) ?_
      exact h
    · have h := h2 c
      refine r_ic (v := 2) dX7_cite_22 (by decide) ?_
      refine r_goto (t := 27) dX7_cite_23 (by decide) ?_
      exact h
  · have h := h2 c
    refine r_ic (v := 1) dX7_cite_9 (by decide) ?_
    refine r_goto (t := 27) dX7_cite_10 (by decide) ?_
    exact h
theorem b100_27 {g : Nat → Nat} {C S : Nat} {σ : PS} {Q : Rs → PS → Prop} {r0 : Nat} {x1 : Int32} {l2 : Option Value} {l3 : Option Value} {u0 : Int32} {w1 : Nat}
    (h : zK σ w1 = 9 ∧ (∀ τ1, τ1 = stI σ w1 0 u0 → zK τ1 r0 = 9 ∧ ((zI τ1 r0 0 : Int32) ≤ 0 → zK τ1 r0 = 9 ∧ zK τ1 r0 = 9 ∧ (∀ τ2, τ2 = stI τ1 r0 8 ((zI τ1 r0 8) + 1) → WP g C S 100 53 [some (.ref r0), some (.int x1), some (.int 0), some (.int 0)] [] τ2 Q)) ∧ (¬ ((zI τ1 r0 0 : Int32) ≤ 0) → Q (Sum.inl (some (.int 0))) τ1))) :
    WP g C S 100 27 [some (.ref r0), some (.int x1), l2, l3] [.int u0, .ref w1] σ Q := by
  obtain ⟨hK, h⟩ := h
  refine r_putI dX7_cite_27 rfl (by decide) (Or.inl rfl) rfl (Or.inl rfl) hK ?_
  generalize eτ1 : stI σ w1 0 u0 = τ1
  replace h := h _ eτ1.symm
  refine r_g (pc' := 31) (ls' := [some (.ref r0), some (.int x1), l2, l3]) (st' := [.ref r0]) dX7_cite_30 (fun _ => rfl) ?_
  obtain ⟨hK, h⟩ := h
  refine r_getI dX7_cite_31 rfl (by decide) rfl hK ?_
  obtain ⟨h1, h2⟩ := h
  refine r_if (t := 39) dX7_cite_34 (by decide) c_le (fun c => ?_) (fun c => ?_)
  · have h := h1 c
    refine r_g (pc' := 40) (ls' := [some (.ref r0), some (.int x1), l2, l3]) (st' := [.ref r0]) dX7_cite_39 (fun _ => rfl) ?_
    refine r_g (pc' := 41) (ls' := [some (.ref r0), some (.int x1), l2, l3]) (st' := [.ref r0, .ref r0]) dX7_cite_40 (fun _ => rfl) ?_
    obtain ⟨hK, h⟩ := h
    refine r_getI dX7_cite_41 rfl (by decide) rfl hK ?_
    refine r_ic (v := 1) dX7_cite_44 (by decide) ?_
    refine r_g (pc' := 46) (ls' := [some (.ref r0), some (.int x1), l2, l3]) (st' := [.int ((zI τ1 r0 8) + 1), .ref r0]) dX7_cite_45 (fun _ => rfl) ?_
    obtain ⟨hK, h⟩ := h
    refine r_putI dX7_cite_46 rfl (by decide) (Or.inl rfl) rfl (Or.inl rfl) hK ?_
    generalize eτ2 : stI τ1 r0 8 ((zI τ1 r0 8) + 1) = τ2
    replace h := h _ eτ2.symm
    refine r_ic (v := 0) dX7_cite_49 (by decide) ?_
    refine r_g (pc' := 51) (ls' := [some (.ref r0), some (.int x1), some (.int 0), l3]) (st' := []) dX7_cite_50 (fun _ => rfl) ?_
    refine r_ic (v := 0) dX7_cite_51 (by decide) ?_
    refine r_g (pc' := 53) (ls' := [some (.ref r0), some (.int x1), some (.int 0), some (.int 0)]) (st' := []) dX7_cite_52 (fun _ => rfl) ?_
    exact h
  · have h := h2 c
    refine r_ic (v := 0) dX7_cite_37 (by decide) ?_
    exact r_ret dX7_cite_38 rfl h
theorem b100_53 {g : Nat → Nat} {C S : Nat} {σ : PS} {Q : Rs → PS → Prop} {r0 : Nat} {x1 : Int32} {x2 : Int32} {x3 : Int32}
    (h : zK σ r0 = 9 ∧ ((zI σ r0 9 : Int32) ≤ x3 → (¬ (x2 : Int32) = 0 → WP g C S 100 111 [some (.ref r0), some (.int x1), some (.int x2), some (.int x3)] [] σ Q) ∧ (¬ (¬ (x2 : Int32) = 0) → zK σ r0 = 9 ∧ ∃ b1, zP σ r0 10 = some b1 ∧ (zK σ r0 = 9 ∧ ∃ n2 : Nat, zI σ r0 9 = nI n2 ∧ n2 < 2147483648 ∧ zK σ b1 = 101 ∧ n2 < zL σ b1 ∧ (∀ τ3, τ3 = stI σ b1 n2 x1 → zK τ3 r0 = 9 ∧ zK τ3 r0 = 9 ∧ (∀ τ4, τ4 = stI τ3 r0 9 ((zI τ3 r0 9) + 1) → WP g C S 100 111 [some (.ref r0), some (.int x1), some (.int x2), some (.int x3)] [] τ4 Q))))) ∧ (¬ ((zI σ r0 9 : Int32) ≤ x3) → (¬ (x2 : Int32) = 0 → WP g C S 100 75 [some (.ref r0), some (.int x1), some (.int x2), some (.int x3)] [] σ Q) ∧ (¬ (¬ (x2 : Int32) = 0) → zK σ r0 = 9 ∧ ∃ b5, zP σ r0 10 = some b5 ∧ (∃ n6 : Nat, x3 = nI n6 ∧ n6 < 2147483648 ∧ (zK σ b5 = 101 ∨ zK σ b5 = 1002) ∧ n6 < zL σ b5 ∧ ((¬ (zI σ b5 n6 : Int32) = x1 → WP g C S 100 80 [some (.ref r0), some (.int x1), some (.int x2), some (.int x3)] [.int 0] σ Q) ∧ (¬ (¬ (zI σ b5 n6 : Int32) = x1) → WP g C S 100 75 [some (.ref r0), some (.int x1), some (.int x2), some (.int x3)] [] σ Q)))))) :
    WP g C S 100 53 [some (.ref r0), some (.int x1), some (.int x2), some (.int x3)] [] σ Q := by
  refine r_g (pc' := 54) (ls' := [some (.ref r0), some (.int x1), some (.int x2), some (.int x3)]) (st' := [.int x3]) dX7_cite_53 (fun _ => rfl) ?_
  refine r_g (pc' := 55) (ls' := [some (.ref r0), some (.int x1), some (.int x2), some (.int x3)]) (st' := [.ref r0, .int x3]) dX7_cite_54 (fun _ => rfl) ?_
  obtain ⟨hK, h⟩ := h
  refine r_getI dX7_cite_55 rfl (by decide) rfl hK ?_
  obtain ⟨h1, h2⟩ := h
  refine r_icmp (t := 87) dX7_cite_58 (by decide) c_ge (fun c => ?_) (fun c => ?_)
  · have h := h1 c
    refine r_g (pc' := 88) (ls' := [some (.ref r0), some (.int x1), some (.int x2), some (.int x3)]) (st' := [.int x2]) dX7_cite_87 (fun _ => rfl) ?_
    obtain ⟨h1, h2⟩ := h
    refine r_if (t := 111) dX7_cite_88 (by decide) c_ne (fun c => ?_) (fun c => ?_)
    · have h := h1 c
      exact h
    · have h := h2 c
      refine r_g (pc' := 92) (ls' := [some (.ref r0), some (.int x1), some (.int x2), some (.int x3)]) (st' := [.ref r0]) dX7_cite_91 (fun _ => rfl) ?_
      obtain ⟨hK, b1, hP, h⟩ := h
      refine r_getP dX7_cite_92 rfl (by decide) rfl hK hP ?_
      refine r_g (pc' := 96) (ls' := [some (.ref r0), some (.int x1), some (.int x2), some (.int x3)]) (st' := [.ref r0, .ref b1]) dX7_cite_95 (fun _ => rfl) ?_
      obtain ⟨hK, h⟩ := h
      refine r_getI dX7_cite_96 rfl (by decide) rfl hK ?_
      refine r_g (pc' := 100) (ls' := [some (.ref r0), some (.int x1), some (.int x2), some (.int x3)]) (st' := [.int x1, .int (zI σ r0 9), .ref b1]) dX7_cite_99 (fun _ => rfl) ?_
      obtain ⟨n2, hj, hn, hK, hL, h⟩ := h
      refine r_iast dX7_cite_100 hj hn hK hL ?_
      generalize eτ3 : stI σ b1 n2 x1 = τ3
      replace h := h _ eτ3.symm
      refine r_g (pc' := 102) (ls' := [some (.ref r0), some (.int x1), some (.int x2), some (.int x3)]) (st' := [.ref r0]) dX7_cite_101 (fun _ => rfl) ?_
      refine r_g (pc' := 103) (ls' := [some (.ref r0), some (.int x1), some (.int x2), some (.int x3)]) (st' := [.ref r0, .ref r0]) dX7_cite_102 (fun _ => rfl) ?_
      obtain ⟨hK, h⟩ := h
      refine r_getI dX7_cite_103 rfl (by decide) rfl hK ?_
      refine r_ic (v := 1) dX7_cite_106 (by decide) ?_
      refine r_g (pc' := 108) (ls' := [some (.ref r0), some (.int x1), some (.int x2), some (.int x3)]) (st' := [.int ((zI τ3 r0 9) + 1), .ref r0]) dX7_cite_107 (fun _ => rfl) ?_
      obtain ⟨hK, h⟩ := h
      refine r_putI dX7_cite_108 rfl (by decide) (Or.inl rfl) rfl (Or.inl rfl) hK ?_
      generalize eτ4 : stI τ3 r0 9 ((zI τ3 r0 9) + 1) = τ4
      replace h := h _ eτ4.symm
      exact h
  · have h := h2 c
    refine r_g (pc' := 62) (ls' := [some (.ref r0), some (.int x1), some (.int x2), some (.int x3)]) (st' := [.int x2]) dX7_cite_61 (fun _ => rfl) ?_
    obtain ⟨h1, h2⟩ := h
    refine r_if (t := 75) dX7_cite_62 (by decide) c_ne (fun c => ?_) (fun c => ?_)
    · have h := h1 c
      exact h
    · have h := h2 c
      refine r_g (pc' := 66) (ls' := [some (.ref r0), some (.int x1), some (.int x2), some (.int x3)]) (st' := [.ref r0]) dX7_cite_65 (fun _ => rfl) ?_
      obtain ⟨hK, b5, hP, h⟩ := h
      refine r_getP dX7_cite_66 rfl (by decide) rfl hK hP ?_
      refine r_g (pc' := 70) (ls' := [some (.ref r0), some (.int x1), some (.int x2), some (.int x3)]) (st' := [.int x3, .ref b5]) dX7_cite_69 (fun _ => rfl) ?_
      obtain ⟨n6, hj, hn, hK, hL, h⟩ := h
      refine r_iald dX7_cite_70 hj hn hK hL ?_
      refine r_g (pc' := 72) (ls' := [some (.ref r0), some (.int x1), some (.int x2), some (.int x3)]) (st' := [.int x1, .int (zI σ b5 n6)]) dX7_cite_71 (fun _ => rfl) ?_
      obtain ⟨h1, h2⟩ := h
      refine r_icmp (t := 79) dX7_cite_72 (by decide) c_ne (fun c => ?_) (fun c => ?_)
      · have h := h1 c
        refine r_ic (v := 0) dX7_cite_79 (by decide) ?_
        exact h
      · have h := h2 c
        exact h
theorem b100_75 {g : Nat → Nat} {C S : Nat} {σ : PS} {Q : Rs → PS → Prop} {r0 : Nat} {x1 : Int32} {l2 : Option Value} {x3 : Int32}
    (h : WP g C S 100 80 [some (.ref r0), some (.int x1), l2, some (.int x3)] [.int 1] σ Q) :
    WP g C S 100 75 [some (.ref r0), some (.int x1), l2, some (.int x3)] [] σ Q := by
  refine r_ic (v := 1) dX7_cite_75 (by decide) ?_
  refine r_goto (t := 80) dX7_cite_76 (by decide) ?_
  exact h
theorem b100_80 {g : Nat → Nat} {C S : Nat} {σ : PS} {Q : Rs → PS → Prop} {r0 : Nat} {x1 : Int32} {l2 : Option Value} {x3 : Int32} {u0 : Int32}
    (h : WP g C S 100 53 [some (.ref r0), some (.int x1), some (.int u0), some (.int (x3 + 1))] [] σ Q) :
    WP g C S 100 80 [some (.ref r0), some (.int x1), l2, some (.int x3)] [.int u0] σ Q := by
  refine r_g (pc' := 81) (ls' := [some (.ref r0), some (.int x1), some (.int u0), some (.int x3)]) (st' := []) dX7_cite_80 (fun _ => rfl) ?_
  refine r_inc (v := 1) (ls' := [some (.ref r0), some (.int x1), some (.int u0), some (.int (x3 + 1))]) dX7_cite_81 rfl (Nat.le_of_ble_eq_true rfl) (by decide) rfl ?_
  refine r_goto (t := 53) dX7_cite_84 (by decide) ?_
  exact h
theorem b100_111 {g : Nat → Nat} {C S : Nat} {σ : PS} {Q : Rs → PS → Prop} {r0 : Nat} {l1 : Option Value} {l2 : Option Value} {l3 : Option Value}
    (h : zK σ r0 = 9 ∧ Q (Sum.inl (some (.int (zI σ r0 8)))) σ) :
    WP g C S 100 111 [some (.ref r0), l1, l2, l3] [] σ Q := by
  refine r_g (pc' := 112) (ls' := [some (.ref r0), l1, l2, l3]) (st' := [.ref r0]) dX7_cite_111 (fun _ => rfl) ?_
  obtain ⟨hK, h⟩ := h
  refine r_getI dX7_cite_112 rfl (by decide) rfl hK ?_
  exact r_ret dX7_cite_115 rfl h
theorem b101_0 {g : Nat → Nat} {C S : Nat} {σ : PS} {Q : Rs → PS → Prop} {r0 : Nat} {x1 : Int32} {x2 : Int32} {l3 : Option Value}
    (h : zK σ r0 = 9 ∧ WP g C S 93 0 [some (.ref r0), some (.int x1)] [] σ (KK g C S 101 6 [some (.ref r0), some (.int x1), some (.int x2), l3] [.ref r0] Q false)) :
    WP g C S 101 0 [some (.ref r0), some (.int x1), some (.int x2), l3] [] σ Q := by
  refine r_g (pc' := 1) (ls' := [some (.ref r0), some (.int x1), some (.int x2), l3]) (st' := [.ref r0]) dX7_cross_0 (fun _ => rfl) ?_
  refine r_g (pc' := 2) (ls' := [some (.ref r0), some (.int x1), some (.int x2), l3]) (st' := [.ref r0, .ref r0]) dX7_cross_1 (fun _ => rfl) ?_
  refine r_g (pc' := 3) (ls' := [some (.ref r0), some (.int x1), some (.int x2), l3]) (st' := [.int x1, .ref r0, .ref r0]) dX7_cross_2 (fun _ => rfl) ?_
  obtain ⟨hK, h⟩ := h
  exact r_call (th := false) dX7_cross_3 (fun _ => ex_calV rfl (by decide)) rfl (Nat.le_of_ble_eq_true rfl) (Nat.le_of_ble_eq_true rfl) (Nat.le_of_ble_eq_true rfl) (rcv0 rfl rfl (by decide) hK) rfl rfl rfl (fun q => nomatch q) h
theorem b101_6 {g : Nat → Nat} {C S : Nat} {σ : PS} {Q : Rs → PS → Prop} {r0 : Nat} {x1 : Int32} {x2 : Int32} {l3 : Option Value} {u0 : Int32} {w1 : Nat}
    (h : ((u0 : Int32) = 0 → WP g C S 101 21 [some (.ref r0), some (.int x1), some (.int x2), l3] [.ref w1] σ Q) ∧ (¬ ((u0 : Int32) = 0) → zK σ r0 = 9 ∧ WP g C S 93 0 [some (.ref r0), some (.int x2)] [] σ (KK g C S 101 14 [some (.ref r0), some (.int x1), some (.int x2), l3] [.ref w1] Q false))) :
    WP g C S 101 6 [some (.ref r0), some (.int x1), some (.int x2), l3] [.int u0, .ref w1] σ Q := by
  obtain ⟨h1, h2⟩ := h
  refine r_if (t := 21) dX7_cross_6 (by decide) c_eq (fun c => ?_) (fun c => ?_)
  · have h := h1 c
    exact h
  · have h := h2 c
    refine r_g (pc' := 10) (ls' := [some (.ref r0), some (.int x1), some (.int x2), l3]) (st' := [.ref r0, .ref w1]) dX7_cross_9 (fun _ => rfl) ?_
    refine r_g (pc' := 11) (ls' := [some (.ref r0), some (.int x1), some (.int x2), l3]) (st' := [.int x2, .ref r0, .ref w1]) dX7_cross_10 (fun _ => rfl) ?_
    obtain ⟨hK, h⟩ := h
    exact r_call (th := false) dX7_cross_11 (fun _ => ex_calV rfl (by decide)) rfl (Nat.le_of_ble_eq_true rfl) (Nat.le_of_ble_eq_true rfl) (Nat.le_of_ble_eq_true rfl) (rcv0 rfl rfl (by decide) hK) rfl rfl rfl (fun q => nomatch q) h
theorem b101_14 {g : Nat → Nat} {C S : Nat} {σ : PS} {Q : Rs → PS → Prop} {r0 : Nat} {x1 : Int32} {x2 : Int32} {l3 : Option Value} {u0 : Int32} {w1 : Nat}
    (h : ((u0 : Int32) = 0 → WP g C S 101 21 [some (.ref r0), some (.int x1), some (.int x2), l3] [.ref w1] σ Q) ∧ (¬ ((u0 : Int32) = 0) → WP g C S 101 22 [some (.ref r0), some (.int x1), some (.int x2), l3] [.int 0, .ref w1] σ Q)) :
    WP g C S 101 14 [some (.ref r0), some (.int x1), some (.int x2), l3] [.int u0, .ref w1] σ Q := by
  obtain ⟨h1, h2⟩ := h
  refine r_if (t := 21) dX7_cross_14 (by decide) c_eq (fun c => ?_) (fun c => ?_)
  · have h := h1 c
    exact h
  · have h := h2 c
    refine r_ic (v := 0) dX7_cross_17 (by decide) ?_
    refine r_goto (t := 22) dX7_cross_18 (by decide) ?_
    exact h
theorem b101_21 {g : Nat → Nat} {C S : Nat} {σ : PS} {Q : Rs → PS → Prop} {r0 : Nat} {x1 : Int32} {x2 : Int32} {l3 : Option Value} {w0 : Nat}
    (h : WP g C S 101 22 [some (.ref r0), some (.int x1), some (.int x2), l3] [.int 1, .ref w0] σ Q) :
    WP g C S 101 21 [some (.ref r0), some (.int x1), some (.int x2), l3] [.ref w0] σ Q := by
  refine r_ic (v := 1) dX7_cross_21 (by decide) ?_
  exact h
theorem b101_22 {g : Nat → Nat} {C S : Nat} {σ : PS} {Q : Rs → PS → Prop} {r0 : Nat} {x1 : Int32} {x2 : Int32} {l3 : Option Value} {u0 : Int32} {w1 : Nat}
    (h : zK σ w1 = 9 ∧ (∀ τ1, τ1 = stI σ w1 0 u0 → zK τ1 r0 = 9 ∧ ((zI τ1 r0 0 : Int32) ≤ 0 → WP g C S 101 36 [some (.ref r0), some (.int x1), some (.int x2), some (.int x2)] [] τ1 Q) ∧ (¬ ((zI τ1 r0 0 : Int32) ≤ 0) → Q (Sum.inl (some (.int 0))) τ1))) :
    WP g C S 101 22 [some (.ref r0), some (.int x1), some (.int x2), l3] [.int u0, .ref w1] σ Q := by
  obtain ⟨hK, h⟩ := h
  refine r_putI dX7_cross_22 rfl (by decide) (Or.inl rfl) rfl (Or.inl rfl) hK ?_
  generalize eτ1 : stI σ w1 0 u0 = τ1
  replace h := h _ eτ1.symm
  refine r_g (pc' := 26) (ls' := [some (.ref r0), some (.int x1), some (.int x2), l3]) (st' := [.ref r0]) dX7_cross_25 (fun _ => rfl) ?_
  obtain ⟨hK, h⟩ := h
  refine r_getI dX7_cross_26 rfl (by decide) rfl hK ?_
  obtain ⟨h1, h2⟩ := h
  refine r_if (t := 34) dX7_cross_29 (by decide) c_le (fun c => ?_) (fun c => ?_)
  · have h := h1 c
    refine r_g (pc' := 35) (ls' := [some (.ref r0), some (.int x1), some (.int x2), l3]) (st' := [.int x2]) dX7_cross_34 (fun _ => rfl) ?_
    refine r_g (pc' := 36) (ls' := [some (.ref r0), some (.int x1), some (.int x2), some (.int x2)]) (st' := []) dX7_cross_35 (fun _ => rfl) ?_
    exact h
  · have h := h2 c
    refine r_ic (v := 0) dX7_cross_32 (by decide) ?_
    exact r_ret dX7_cross_33 rfl h
theorem b101_36 {g : Nat → Nat} {C S : Nat} {σ : PS} {Q : Rs → PS → Prop} {r0 : Nat} {x1 : Int32} {x2 : Int32} {x3 : Int32}
    (h : ((x3 : Int32) = (-1) → zK σ r0 = 9 ∧ ∃ b1, zP σ r0 7 = some b1 ∧ (∃ n2 : Nat, x1 = nI n2 ∧ n2 < 2147483648 ∧ zK σ b1 = 101 ∧ n2 < zL σ b1 ∧ (∀ τ3, τ3 = stI σ b1 n2 x2 → Q (Sum.inl (some (.int 1))) τ3))) ∧ (¬ ((x3 : Int32) = (-1)) → (¬ (x3 : Int32) = x1 → zK σ r0 = 9 ∧ ∃ b4, zP σ r0 7 = some b4 ∧ (∃ n5 : Nat, x3 = nI n5 ∧ n5 < 2147483648 ∧ (zK σ b4 = 101 ∨ zK σ b4 = 1002) ∧ n5 < zL σ b4 ∧ (WP g C S 101 36 [some (.ref r0), some (.int x1), some (.int x2), some (.int (zI σ b4 n5))] [] σ Q))) ∧ (¬ (¬ (x3 : Int32) = x1) → Q (Sum.inl (some (.int 0))) σ))) :
    WP g C S 101 36 [some (.ref r0), some (.int x1), some (.int x2), some (.int x3)] [] σ Q := by
  refine r_g (pc' := 37) (ls' := [some (.ref r0), some (.int x1), some (.int x2), some (.int x3)]) (st' := [.int x3]) dX7_cross_36 (fun _ => rfl) ?_
  refine r_ic (v := -1) dX7_cross_37 (by decide) ?_
  obtain ⟨h1, h2⟩ := h
  refine r_icmp (t := 58) dX7_cross_38 (by decide) c_eq (fun c => ?_) (fun c => ?_)
  · have h := h1 c
    refine r_g (pc' := 59) (ls' := [some (.ref r0), some (.int x1), some (.int x2), some (.int x3)]) (st' := [.ref r0]) dX7_cross_58 (fun _ => rfl) ?_
    obtain ⟨hK, b1, hP, h⟩ := h
    refine r_getP dX7_cross_59 rfl (by decide) rfl hK hP ?_
    refine r_g (pc' := 63) (ls' := [some (.ref r0), some (.int x1), some (.int x2), some (.int x3)]) (st' := [.int x1, .ref b1]) dX7_cross_62 (fun _ => rfl) ?_
    refine r_g (pc' := 64) (ls' := [some (.ref r0), some (.int x1), some (.int x2), some (.int x3)]) (st' := [.int x2, .int x1, .ref b1]) dX7_cross_63 (fun _ => rfl) ?_
    obtain ⟨n2, hj, hn, hK, hL, h⟩ := h
    refine r_iast dX7_cross_64 hj hn hK hL ?_
    generalize eτ3 : stI σ b1 n2 x2 = τ3
    replace h := h _ eτ3.symm
    refine r_ic (v := 1) dX7_cross_65 (by decide) ?_
    exact r_ret dX7_cross_66 rfl h
  · have h := h2 c
    refine r_g (pc' := 42) (ls' := [some (.ref r0), some (.int x1), some (.int x2), some (.int x3)]) (st' := [.int x3]) dX7_cross_41 (fun _ => rfl) ?_
    refine r_g (pc' := 43) (ls' := [some (.ref r0), some (.int x1), some (.int x2), some (.int x3)]) (st' := [.int x1, .int x3]) dX7_cross_42 (fun _ => rfl) ?_
    obtain ⟨h1, h2⟩ := h
    refine r_icmp (t := 48) dX7_cross_43 (by decide) c_ne (fun c => ?_) (fun c => ?_)
    · have h := h1 c
      refine r_g (pc' := 49) (ls' := [some (.ref r0), some (.int x1), some (.int x2), some (.int x3)]) (st' := [.ref r0]) dX7_cross_48 (fun _ => rfl) ?_
      obtain ⟨hK, b4, hP, h⟩ := h
      refine r_getP dX7_cross_49 rfl (by decide) rfl hK hP ?_
      refine r_g (pc' := 53) (ls' := [some (.ref r0), some (.int x1), some (.int x2), some (.int x3)]) (st' := [.int x3, .ref b4]) dX7_cross_52 (fun _ => rfl) ?_
      obtain ⟨n5, hj, hn, hK, hL, h⟩ := h
      refine r_iald dX7_cross_53 hj hn hK hL ?_
      refine r_g (pc' := 55) (ls' := [some (.ref r0), some (.int x1), some (.int x2), some (.int (zI σ b4 n5))]) (st' := []) dX7_cross_54 (fun _ => rfl) ?_
      refine r_goto (t := 36) dX7_cross_55 (by decide) ?_
      exact h
    · have h := h2 c
      refine r_ic (v := 0) dX7_cross_46 (by decide) ?_
      exact r_ret dX7_cross_47 rfl h
theorem b102_0 {g : Nat → Nat} {C S : Nat} {σ : PS} {Q : Rs → PS → Prop} {r0 : Nat} {x1 : Int32} {x2 : Int32} {l3 : Option Value}
    (h : ((x1 : Int32) < 0 → WP g C S 102 19 [some (.ref r0), some (.int x1), some (.int x2), l3] [.ref r0] σ Q) ∧ (¬ ((x1 : Int32) < 0) → ((2 : Int32) < x1 → WP g C S 102 19 [some (.ref r0), some (.int x1), some (.int x2), l3] [.ref r0] σ Q) ∧ (¬ ((2 : Int32) < x1) → ((x2 : Int32) < 0 → WP g C S 102 19 [some (.ref r0), some (.int x1), some (.int x2), l3] [.ref r0] σ Q) ∧ (¬ ((x2 : Int32) < 0) → ((x2 : Int32) ≤ 2 → WP g C S 102 24 [some (.ref r0), some (.int x1), some (.int x2), l3] [.int 0, .ref r0] σ Q) ∧ (¬ ((x2 : Int32) ≤ 2) → WP g C S 102 19 [some (.ref r0), some (.int x1), some (.int x2), l3] [.ref r0] σ Q))))) :
    WP g C S 102 0 [some (.ref r0), some (.int x1), some (.int x2), l3] [] σ Q := by
  refine r_g (pc' := 1) (ls' := [some (.ref r0), some (.int x1), some (.int x2), l3]) (st' := [.ref r0]) dX7_style_0 (fun _ => rfl) ?_
  refine r_g (pc' := 2) (ls' := [some (.ref r0), some (.int x1), some (.int x2), l3]) (st' := [.int x1, .ref r0]) dX7_style_1 (fun _ => rfl) ?_
  obtain ⟨h1, h2⟩ := h
  refine r_if (t := 19) dX7_style_2 (by decide) c_lt (fun c => ?_) (fun c => ?_)
  · have h := h1 c
    exact h
  · have h := h2 c
    refine r_g (pc' := 6) (ls' := [some (.ref r0), some (.int x1), some (.int x2), l3]) (st' := [.int x1, .ref r0]) dX7_style_5 (fun _ => rfl) ?_
    refine r_ic (v := 2) dX7_style_6 (by decide) ?_
    obtain ⟨h1, h2⟩ := h
    refine r_icmp (t := 19) dX7_style_7 (by decide) c_gt (fun c => ?_) (fun c => ?_)
    · have h := h1 c
      exact h
    · have h := h2 c
      refine r_g (pc' := 11) (ls' := [some (.ref r0), some (.int x1), some (.int x2), l3]) (st' := [.int x2, .ref r0]) dX7_style_10 (fun _ => rfl) ?_
      obtain ⟨h1, h2⟩ := h
      refine r_if (t := 19) dX7_style_11 (by decide) c_lt (fun c => ?_) (fun c => ?_)
      · have h := h1 c
        exact h
      · have h := h2 c
        refine r_g (pc' := 15) (ls' := [some (.ref r0), some (.int x1), some (.int x2), l3]) (st' := [.int x2, .ref r0]) dX7_style_14 (fun _ => rfl) ?_
        refine r_ic (v := 2) dX7_style_15 (by decide) ?_
        obtain ⟨h1, h2⟩ := h
        refine r_icmp (t := 23) dX7_style_16 (by decide) c_le (fun c => ?_) (fun c => ?_)
        · have h := h1 c
          refine r_ic (v := 0) dX7_style_23 (by decide) ?_
          exact h
        · have h := h2 c
          exact h
theorem b102_19 {g : Nat → Nat} {C S : Nat} {σ : PS} {Q : Rs → PS → Prop} {r0 : Nat} {x1 : Int32} {x2 : Int32} {l3 : Option Value} {w0 : Nat}
    (h : WP g C S 102 24 [some (.ref r0), some (.int x1), some (.int x2), l3] [.int 1, .ref w0] σ Q) :
    WP g C S 102 19 [some (.ref r0), some (.int x1), some (.int x2), l3] [.ref w0] σ Q := by
  refine r_ic (v := 1) dX7_style_19 (by decide) ?_
  refine r_goto (t := 24) dX7_style_20 (by decide) ?_
  exact h
theorem b102_24 {g : Nat → Nat} {C S : Nat} {σ : PS} {Q : Rs → PS → Prop} {r0 : Nat} {x1 : Int32} {x2 : Int32} {l3 : Option Value} {u0 : Int32} {w1 : Nat}
    (h : zK σ w1 = 9 ∧ (∀ τ1, τ1 = stI σ w1 0 u0 → zK τ1 r0 = 9 ∧ ((zI τ1 r0 0 : Int32) ≤ 0 → zK τ1 r0 = 9 ∧ zK τ1 r0 = 9 ∧ zK τ1 r0 = 9 ∧ (∀ τ2, τ2 = stI τ1 r0 11 x1 → zK τ2 r0 = 9 ∧ (∀ τ3, τ3 = stI τ2 r0 12 x2 → Q (Sum.inl (some (.int ((10 * (zI τ1 r0 11)) + (zI τ1 r0 12))))) τ3))) ∧ (¬ ((zI τ1 r0 0 : Int32) ≤ 0) → Q (Sum.inl (some (.int 0))) τ1))) :
    WP g C S 102 24 [some (.ref r0), some (.int x1), some (.int x2), l3] [.int u0, .ref w1] σ Q := by
  obtain ⟨hK, h⟩ := h
  refine r_putI dX7_style_24 rfl (by decide) (Or.inl rfl) rfl (Or.inl rfl) hK ?_
  generalize eτ1 : stI σ w1 0 u0 = τ1
  replace h := h _ eτ1.symm
  refine r_g (pc' := 28) (ls' := [some (.ref r0), some (.int x1), some (.int x2), l3]) (st' := [.ref r0]) dX7_style_27 (fun _ => rfl) ?_
  obtain ⟨hK, h⟩ := h
  refine r_getI dX7_style_28 rfl (by decide) rfl hK ?_
  obtain ⟨h1, h2⟩ := h
  refine r_if (t := 36) dX7_style_31 (by decide) c_le (fun c => ?_) (fun c => ?_)
  · have h := h1 c
    refine r_bi (v := 10) dX7_style_36 (by decide) ?_
    refine r_g (pc' := 39) (ls' := [some (.ref r0), some (.int x1), some (.int x2), l3]) (st' := [.ref r0, .int 10]) dX7_style_38 (fun _ => rfl) ?_
    obtain ⟨hK, h⟩ := h
    refine r_getI dX7_style_39 rfl (by decide) rfl hK ?_
    refine r_g (pc' := 43) (ls' := [some (.ref r0), some (.int x1), some (.int x2), l3]) (st' := [.int (10 * (zI τ1 r0 11))]) dX7_style_42 (fun _ => rfl) ?_
    refine r_g (pc' := 44) (ls' := [some (.ref r0), some (.int x1), some (.int x2), l3]) (st' := [.ref r0, .int (10 * (zI τ1 r0 11))]) dX7_style_43 (fun _ => rfl) ?_
    obtain ⟨hK, h⟩ := h
    refine r_getI dX7_style_44 rfl (by decide) rfl hK ?_
    refine r_g (pc' := 48) (ls' := [some (.ref r0), some (.int x1), some (.int x2), l3]) (st' := [.int ((10 * (zI τ1 r0 11)) + (zI τ1 r0 12))]) dX7_style_47 (fun _ => rfl) ?_
    refine r_g (pc' := 49) (ls' := [some (.ref r0), some (.int x1), some (.int x2), some (.int ((10 * (zI τ1 r0 11)) + (zI τ1 r0 12)))]) (st' := []) dX7_style_48 (fun _ => rfl) ?_
    refine r_g (pc' := 50) (ls' := [some (.ref r0), some (.int x1), some (.int x2), some (.int ((10 * (zI τ1 r0 11)) + (zI τ1 r0 12)))]) (st' := [.ref r0]) dX7_style_49 (fun _ => rfl) ?_
    refine r_g (pc' := 51) (ls' := [some (.ref r0), some (.int x1), some (.int x2), some (.int ((10 * (zI τ1 r0 11)) + (zI τ1 r0 12)))]) (st' := [.int x1, .ref r0]) dX7_style_50 (fun _ => rfl) ?_
    obtain ⟨hK, h⟩ := h
    refine r_putI dX7_style_51 rfl (by decide) (Or.inl rfl) rfl (Or.inl rfl) hK ?_
    generalize eτ2 : stI τ1 r0 11 x1 = τ2
    replace h := h _ eτ2.symm
    refine r_g (pc' := 55) (ls' := [some (.ref r0), some (.int x1), some (.int x2), some (.int ((10 * (zI τ1 r0 11)) + (zI τ1 r0 12)))]) (st' := [.ref r0]) dX7_style_54 (fun _ => rfl) ?_
    refine r_g (pc' := 56) (ls' := [some (.ref r0), some (.int x1), some (.int x2), some (.int ((10 * (zI τ1 r0 11)) + (zI τ1 r0 12)))]) (st' := [.int x2, .ref r0]) dX7_style_55 (fun _ => rfl) ?_
    obtain ⟨hK, h⟩ := h
    refine r_putI dX7_style_56 rfl (by decide) (Or.inl rfl) rfl (Or.inl rfl) hK ?_
    generalize eτ3 : stI τ2 r0 12 x2 = τ3
    replace h := h _ eτ3.symm
    refine r_g (pc' := 60) (ls' := [some (.ref r0), some (.int x1), some (.int x2), some (.int ((10 * (zI τ1 r0 11)) + (zI τ1 r0 12)))]) (st' := [.int ((10 * (zI τ1 r0 11)) + (zI τ1 r0 12))]) dX7_style_59 (fun _ => rfl) ?_
    exact r_ret dX7_style_60 rfl h
  · have h := h2 c
    refine r_ic (v := 0) dX7_style_34 (by decide) ?_
    exact r_ret dX7_style_35 rfl h
theorem b103_0 {g : Nat → Nat} {C S : Nat} {σ : PS} {Q : Rs → PS → Prop} {r0 : Nat} {x1 : Int32} {x2 : Int32} {l3 : Option Value}
    (h : WP g C S 103 2 [some (.ref r0), some (.int x1), some (.int x2), some (.int x1)] [] σ Q) :
    WP g C S 103 0 [some (.ref r0), some (.int x1), some (.int x2), l3] [] σ Q := by
  refine r_g (pc' := 1) (ls' := [some (.ref r0), some (.int x1), some (.int x2), l3]) (st' := [.int x1]) dX7_value_0 (fun _ => rfl) ?_
  refine r_g (pc' := 2) (ls' := [some (.ref r0), some (.int x1), some (.int x2), some (.int x1)]) (st' := []) dX7_value_1 (fun _ => rfl) ?_
  exact h
theorem b103_2 {g : Nat → Nat} {C S : Nat} {σ : PS} {Q : Rs → PS → Prop} {r0 : Nat} {l1 : Option Value} {x2 : Int32} {x3 : Int32}
    (h : zK σ r0 = 9 ∧ ∃ b1, zP σ r0 5 = some b1 ∧ (∃ n2 : Nat, (8 * x3) + x2 = nI n2 ∧ n2 < 2147483648 ∧ (zK σ b1 = 101 ∨ zK σ b1 = 1002) ∧ n2 < zL σ b1 ∧ ((¬ (zI σ b1 n2 : Int32) = 0 → Q (Sum.inl (some (.int ((8 * x3) + x2)))) σ) ∧ (¬ (¬ (zI σ b1 n2 : Int32) = 0) → zK σ r0 = 9 ∧ ∃ b3, zP σ r0 7 = some b3 ∧ (∃ n4 : Nat, x3 = nI n4 ∧ n4 < 2147483648 ∧ (zK σ b3 = 101 ∨ zK σ b3 = 1002) ∧ n4 < zL σ b3 ∧ (((zI σ b3 n4 : Int32) = (-1) → WP g C S 103 31 [some (.ref r0), l1, some (.int x2), some (.int x3)] [] σ Q) ∧ (¬ ((zI σ b3 n4 : Int32) = (-1)) → (¬ (x2 : Int32) = 1 → zK σ r0 = 9 ∧ ∃ b5, zP σ r0 7 = some b5 ∧ (∃ n6 : Nat, x3 = nI n6 ∧ n6 < 2147483648 ∧ (zK σ b5 = 101 ∨ zK σ b5 = 1002) ∧ n6 < zL σ b5 ∧ ((¬ (x2 : Int32) = 6 → WP g C S 103 2 [some (.ref r0), l1, some (.int x2), some (.int (zI σ b5 n6))] [] σ Q) ∧ (¬ (¬ (x2 : Int32) = 6) → zK σ r0 = 9 ∧ ∃ b7, zP σ r0 5 = some b7 ∧ (∃ n8 : Nat, (8 * (zI σ b5 n6)) + 1 = nI n8 ∧ n8 < 2147483648 ∧ (zK σ b7 = 101 ∨ zK σ b7 = 1002) ∧ n8 < zL σ b7 ∧ (((zI σ b7 n8 : Int32) ≤ 0 → WP g C S 103 2 [some (.ref r0), l1, some (.int x2), some (.int (zI σ b5 n6))] [] σ Q) ∧ (¬ ((zI σ b7 n8 : Int32) ≤ 0) → Q (Sum.inl (some (.int ((8 * (zI σ b5 n6)) + 1)))) σ))))))) ∧ (¬ (¬ (x2 : Int32) = 1) → WP g C S 103 31 [some (.ref r0), l1, some (.int x2), some (.int x3)] [] σ Q)))))))) :
    WP g C S 103 2 [some (.ref r0), l1, some (.int x2), some (.int x3)] [] σ Q := by
  refine r_g (pc' := 3) (ls' := [some (.ref r0), l1, some (.int x2), some (.int x3)]) (st' := [.ref r0]) dX7_value_2 (fun _ => rfl) ?_
  obtain ⟨hK, b1, hP, h⟩ := h
  refine r_getP dX7_value_3 rfl (by decide) rfl hK hP ?_
  refine r_bi (v := 8) dX7_value_6 (by decide) ?_
  refine r_g (pc' := 9) (ls' := [some (.ref r0), l1, some (.int x2), some (.int x3)]) (st' := [.int x3, .int 8, .ref b1]) dX7_value_8 (fun _ => rfl) ?_
  refine r_g (pc' := 10) (ls' := [some (.ref r0), l1, some (.int x2), some (.int x3)]) (st' := [.int (8 * x3), .ref b1]) dX7_value_9 (fun _ => rfl) ?_
  refine r_g (pc' := 11) (ls' := [some (.ref r0), l1, some (.int x2), some (.int x3)]) (st' := [.int x2, .int (8 * x3), .ref b1]) dX7_value_10 (fun _ => rfl) ?_
  refine r_g (pc' := 12) (ls' := [some (.ref r0), l1, some (.int x2), some (.int x3)]) (st' := [.int ((8 * x3) + x2), .ref b1]) dX7_value_11 (fun _ => rfl) ?_
  obtain ⟨n2, hj, hn, hK, hL, h⟩ := h
  refine r_iald dX7_value_12 hj hn hK hL ?_
  obtain ⟨h1, h2⟩ := h
  refine r_if (t := 67) dX7_value_13 (by decide) c_ne (fun c => ?_) (fun c => ?_)
  · have h := h1 c
    refine r_bi (v := 8) dX7_value_67 (by decide) ?_
    refine r_g (pc' := 70) (ls' := [some (.ref r0), l1, some (.int x2), some (.int x3)]) (st' := [.int x3, .int 8]) dX7_value_69 (fun _ => rfl) ?_
    refine r_g (pc' := 71) (ls' := [some (.ref r0), l1, some (.int x2), some (.int x3)]) (st' := [.int (8 * x3)]) dX7_value_70 (fun _ => rfl) ?_
    refine r_g (pc' := 72) (ls' := [some (.ref r0), l1, some (.int x2), some (.int x3)]) (st' := [.int x2, .int (8 * x3)]) dX7_value_71 (fun _ => rfl) ?_
    refine r_g (pc' := 73) (ls' := [some (.ref r0), l1, some (.int x2), some (.int x3)]) (st' := [.int ((8 * x3) + x2)]) dX7_value_72 (fun _ => rfl) ?_
    exact r_ret dX7_value_73 rfl h
  · have h := h2 c
    refine r_g (pc' := 17) (ls' := [some (.ref r0), l1, some (.int x2), some (.int x3)]) (st' := [.ref r0]) dX7_value_16 (fun _ => rfl) ?_
    obtain ⟨hK, b3, hP, h⟩ := h
    refine r_getP dX7_value_17 rfl (by decide) rfl hK hP ?_
    refine r_g (pc' := 21) (ls' := [some (.ref r0), l1, some (.int x2), some (.int x3)]) (st' := [.int x3, .ref b3]) dX7_value_20 (fun _ => rfl) ?_
    obtain ⟨n4, hj, hn, hK, hL, h⟩ := h
    refine r_iald dX7_value_21 hj hn hK hL ?_
    refine r_ic (v := -1) dX7_value_22 (by decide) ?_
    obtain ⟨h1, h2⟩ := h
    refine r_icmp (t := 31) dX7_value_23 (by decide) c_eq (fun c => ?_) (fun c => ?_)
    · have h := h1 c
      exact h
    · have h := h2 c
      refine r_g (pc' := 27) (ls' := [some (.ref r0), l1, some (.int x2), some (.int x3)]) (st' := [.int x2]) dX7_value_26 (fun _ => rfl) ?_
      refine r_ic (v := 1) dX7_value_27 (by decide) ?_
      obtain ⟨h1, h2⟩ := h
      refine r_icmp (t := 33) dX7_value_28 (by decide) c_ne (fun c => ?_) (fun c => ?_)
      · have h := h1 c
        refine r_g (pc' := 34) (ls' := [some (.ref r0), l1, some (.int x2), some (.int x3)]) (st' := [.ref r0]) dX7_value_33 (fun _ => rfl) ?_
        obtain ⟨hK, b5, hP, h⟩ := h
        refine r_getP dX7_value_34 rfl (by decide) rfl hK hP ?_
        refine r_g (pc' := 38) (ls' := [some (.ref r0), l1, some (.int x2), some (.int x3)]) (st' := [.int x3, .ref b5]) dX7_value_37 (fun _ => rfl) ?_
        obtain ⟨n6, hj, hn, hK, hL, h⟩ := h
        refine r_iald dX7_value_38 hj hn hK hL ?_
        refine r_g (pc' := 40) (ls' := [some (.ref r0), l1, some (.int x2), some (.int (zI σ b5 n6))]) (st' := []) dX7_value_39 (fun _ => rfl) ?_
        refine r_g (pc' := 41) (ls' := [some (.ref r0), l1, some (.int x2), some (.int (zI σ b5 n6))]) (st' := [.int x2]) dX7_value_40 (fun _ => rfl) ?_
        refine r_bi (v := 6) dX7_value_41 (by decide) ?_
        obtain ⟨h1, h2⟩ := h
        refine r_icmp (t := 2) dX7_value_43 (by decide) c_ne (fun c => ?_) (fun c => ?_)
        · have h := h1 c
          exact h
        · have h := h2 c
          refine r_g (pc' := 47) (ls' := [some (.ref r0), l1, some (.int x2), some (.int (zI σ b5 n6))]) (st' := [.ref r0]) dX7_value_46 (fun _ => rfl) ?_
          obtain ⟨hK, b7, hP, h⟩ := h
          refine r_getP dX7_value_47 rfl (by decide) rfl hK hP ?_
          refine r_bi (v := 8) dX7_value_50 (by decide) ?_
          refine r_g (pc' := 53) (ls' := [some (.ref r0), l1, some (.int x2), some (.int (zI σ b5 n6))]) (st' := [.int (zI σ b5 n6), .int 8, .ref b7]) dX7_value_52 (fun _ => rfl) ?_
          refine r_g (pc' := 54) (ls' := [some (.ref r0), l1, some (.int x2), some (.int (zI σ b5 n6))]) (st' := [.int (8 * (zI σ b5 n6)), .ref b7]) dX7_value_53 (fun _ => rfl) ?_
          refine r_ic (v := 1) dX7_value_54 (by decide) ?_
          refine r_g (pc' := 56) (ls' := [some (.ref r0), l1, some (.int x2), some (.int (zI σ b5 n6))]) (st' := [.int ((8 * (zI σ b5 n6)) + 1), .ref b7]) dX7_value_55 (fun _ => rfl) ?_
          obtain ⟨n8, hj, hn, hK, hL, h⟩ := h
          refine r_iald dX7_value_56 hj hn hK hL ?_
          obtain ⟨h1, h2⟩ := h
          refine r_if (t := 2) dX7_value_57 (by decide) c_le (fun c => ?_) (fun c => ?_)
          · have h := h1 c
            exact h
          · have h := h2 c
            refine r_bi (v := 8) dX7_value_60 (by decide) ?_
            refine r_g (pc' := 63) (ls' := [some (.ref r0), l1, some (.int x2), some (.int (zI σ b5 n6))]) (st' := [.int (zI σ b5 n6), .int 8]) dX7_value_62 (fun _ => rfl) ?_
            refine r_g (pc' := 64) (ls' := [some (.ref r0), l1, some (.int x2), some (.int (zI σ b5 n6))]) (st' := [.int (8 * (zI σ b5 n6))]) dX7_value_63 (fun _ => rfl) ?_
            refine r_ic (v := 1) dX7_value_64 (by decide) ?_
            refine r_g (pc' := 66) (ls' := [some (.ref r0), l1, some (.int x2), some (.int (zI σ b5 n6))]) (st' := [.int ((8 * (zI σ b5 n6)) + 1)]) dX7_value_65 (fun _ => rfl) ?_
            exact r_ret dX7_value_66 rfl h
      · have h := h2 c
        exact h
theorem b103_31 {g : Nat → Nat} {C S : Nat} {σ : PS} {Q : Rs → PS → Prop} {l0 : Option Value} {l1 : Option Value} {l2 : Option Value} {l3 : Option Value}
    (h : Q (Sum.inl (some (.int (-1)))) σ) :
    WP g C S 103 31 [l0, l1, l2, l3] [] σ Q := by
  refine r_ic (v := -1) dX7_value_31 (by decide) ?_
  exact r_ret dX7_value_32 rfl h
theorem b104_0 {g : Nat → Nat} {C S : Nat} {σ : PS} {Q : Rs → PS → Prop} {r0 : Nat} {x1 : Int32} {l2 : Option Value} {l3 : Option Value} {l4 : Option Value}
    (h : WP g C S 104 2 [some (.ref r0), some (.int x1), some (.int 0), l3, l4] [] σ Q) :
    WP g C S 104 0 [some (.ref r0), some (.int x1), l2, l3, l4] [] σ Q := by
  refine r_ic (v := 0) dX7_real_0 (by decide) ?_
  refine r_g (pc' := 2) (ls' := [some (.ref r0), some (.int x1), some (.int 0), l3, l4]) (st' := []) dX7_real_1 (fun _ => rfl) ?_
  exact h
theorem b104_2 {g : Nat → Nat} {C S : Nat} {σ : PS} {Q : Rs → PS → Prop} {r0 : Nat} {x1 : Int32} {x2 : Int32} {l3 : Option Value} {l4 : Option Value}
    (h : ((x1 : Int32) ≤ x2 → WP g C S 104 106 [some (.ref r0), some (.int x1), some (.int x2), l3, l4] [] σ Q) ∧ (¬ ((x1 : Int32) ≤ x2) → zK σ r0 = 9 ∧ ∃ b1, zP σ r0 3 = some b1 ∧ (∃ n2 : Nat, x1 = nI n2 ∧ n2 < 2147483648 ∧ (zK σ b1 = 101 ∨ zK σ b1 = 1002) ∧ n2 < zL σ b1 ∧ (((zI σ b1 n2 : Int32) ≤ 0 → WP g C S 104 106 [some (.ref r0), some (.int x1), some (.int x2), l3, l4] [] σ Q) ∧ (¬ ((zI σ b1 n2 : Int32) ≤ 0) → zK σ r0 = 9 ∧ ∃ b3, zP σ r0 3 = some b3 ∧ (∃ n4 : Nat, x2 = nI n4 ∧ n4 < 2147483648 ∧ (zK σ b3 = 101 ∨ zK σ b3 = 1002) ∧ n4 < zL σ b3 ∧ (zK σ r0 = 9 ∧ ∃ b5, zP σ r0 3 = some b5 ∧ (∃ n6 : Nat, x1 = nI n6 ∧ n6 < 2147483648 ∧ (zK σ b5 = 101 ∨ zK σ b5 = 1002) ∧ n6 < zL σ b5 ∧ ((¬ (zI σ b3 n4 : Int32) = (zI σ b5 n6) → WP g C S 104 36 [some (.ref r0), some (.int x1), some (.int x2), l3, l4] [.int 0] σ Q) ∧ (¬ (¬ (zI σ b3 n4 : Int32) = (zI σ b5 n6)) → WP g C S 104 36 [some (.ref r0), some (.int x1), some (.int x2), l3, l4] [.int 1] σ Q)))))))))) :
    WP g C S 104 2 [some (.ref r0), some (.int x1), some (.int x2), l3, l4] [] σ Q := by
  refine r_g (pc' := 3) (ls' := [some (.ref r0), some (.int x1), some (.int x2), l3, l4]) (st' := [.int x2]) dX7_real_2 (fun _ => rfl) ?_
  refine r_g (pc' := 4) (ls' := [some (.ref r0), some (.int x1), some (.int x2), l3, l4]) (st' := [.int x1, .int x2]) dX7_real_3 (fun _ => rfl) ?_
  obtain ⟨h1, h2⟩ := h
  refine r_icmp (t := 106) dX7_real_4 (by decide) c_ge (fun c => ?_) (fun c => ?_)
  · have h := h1 c
    exact h
  · have h := h2 c
    refine r_g (pc' := 8) (ls' := [some (.ref r0), some (.int x1), some (.int x2), l3, l4]) (st' := [.ref r0]) dX7_real_7 (fun _ => rfl) ?_
    obtain ⟨hK, b1, hP, h⟩ := h
    refine r_getP dX7_real_8 rfl (by decide) rfl hK hP ?_
    refine r_g (pc' := 12) (ls' := [some (.ref r0), some (.int x1), some (.int x2), l3, l4]) (st' := [.int x1, .ref b1]) dX7_real_11 (fun _ => rfl) ?_
    obtain ⟨n2, hj, hn, hK, hL, h⟩ := h
    refine r_iald dX7_real_12 hj hn hK hL ?_
    obtain ⟨h1, h2⟩ := h
    refine r_if (t := 106) dX7_real_13 (by decide) c_le (fun c => ?_) (fun c => ?_)
    · have h := h1 c
      exact h
    · have h := h2 c
      refine r_g (pc' := 17) (ls' := [some (.ref r0), some (.int x1), some (.int x2), l3, l4]) (st' := [.ref r0]) dX7_real_16 (fun _ => rfl) ?_
      obtain ⟨hK, b3, hP, h⟩ := h
      refine r_getP dX7_real_17 rfl (by decide) rfl hK hP ?_
      refine r_g (pc' := 21) (ls' := [some (.ref r0), some (.int x1), some (.int x2), l3, l4]) (st' := [.int x2, .ref b3]) dX7_real_20 (fun _ => rfl) ?_
      obtain ⟨n4, hj, hn, hK, hL, h⟩ := h
      refine r_iald dX7_real_21 hj hn hK hL ?_
      refine r_g (pc' := 23) (ls' := [some (.ref r0), some (.int x1), some (.int x2), l3, l4]) (st' := [.ref r0, .int (zI σ b3 n4)]) dX7_real_22 (fun _ => rfl) ?_
      obtain ⟨hK, b5, hP, h⟩ := h
      refine r_getP dX7_real_23 rfl (by decide) rfl hK hP ?_
      refine r_g (pc' := 27) (ls' := [some (.ref r0), some (.int x1), some (.int x2), l3, l4]) (st' := [.int x1, .ref b5, .int (zI σ b3 n4)]) dX7_real_26 (fun _ => rfl) ?_
      obtain ⟨n6, hj, hn, hK, hL, h⟩ := h
      refine r_iald dX7_real_27 hj hn hK hL ?_
      obtain ⟨h1, h2⟩ := h
      refine r_icmp (t := 35) dX7_real_28 (by decide) c_ne (fun c => ?_) (fun c => ?_)
      · have h := h1 c
        refine r_ic (v := 0) dX7_real_35 (by decide) ?_
        exact h
      · have h := h2 c
        refine r_ic (v := 1) dX7_real_31 (by decide) ?_
        refine r_goto (t := 36) dX7_real_32 (by decide) ?_
        exact h
theorem b104_36 {g : Nat → Nat} {C S : Nat} {σ : PS} {Q : Rs → PS → Prop} {r0 : Nat} {x1 : Int32} {x2 : Int32} {l3 : Option Value} {l4 : Option Value} {u0 : Int32}
    (h : WP g C S 104 40 [some (.ref r0), some (.int x1), some (.int x2), some (.int u0), some (.int 0)] [] σ Q) :
    WP g C S 104 36 [some (.ref r0), some (.int x1), some (.int x2), l3, l4] [.int u0] σ Q := by
  refine r_g (pc' := 37) (ls' := [some (.ref r0), some (.int x1), some (.int x2), some (.int u0), l4]) (st' := []) dX7_real_36 (fun _ => rfl) ?_
  refine r_ic (v := 0) dX7_real_37 (by decide) ?_
  refine r_g (pc' := 40) (ls' := [some (.ref r0), some (.int x1), some (.int x2), some (.int u0), some (.int 0)]) (st' := []) dX7_real_38 (fun _ => rfl) ?_
  exact h
theorem b104_40 {g : Nat → Nat} {C S : Nat} {σ : PS} {Q : Rs → PS → Prop} {r0 : Nat} {x1 : Int32} {x2 : Int32} {x3 : Int32} {x4 : Int32}
    (h : zK σ r0 = 9 ∧ ∃ b1, zP σ r0 3 = some b1 ∧ (∃ n2 : Nat, x1 = nI n2 ∧ n2 < 2147483648 ∧ (zK σ b1 = 101 ∨ zK σ b1 = 1002) ∧ n2 < zL σ b1 ∧ (((zI σ b1 n2 : Int32) ≤ x4 → WP g C S 104 94 [some (.ref r0), some (.int x1), some (.int x2), some (.int x3), some (.int x4)] [] σ Q) ∧ (¬ ((zI σ b1 n2 : Int32) ≤ x4) → ((x3 : Int32) = 0 → WP g C S 104 94 [some (.ref r0), some (.int x1), some (.int x2), some (.int x3), some (.int x4)] [] σ Q) ∧ (¬ ((x3 : Int32) = 0) → zK σ r0 = 9 ∧ ∃ b3, zP σ r0 4 = some b3 ∧ (∃ n4 : Nat, (16 * x2) + x4 = nI n4 ∧ n4 < 2147483648 ∧ (zK σ b3 = 101 ∨ zK σ b3 = 1002) ∧ n4 < zL σ b3 ∧ (zK σ r0 = 9 ∧ ∃ b5, zP σ r0 4 = some b5 ∧ (∃ n6 : Nat, (16 * x1) + x4 = nI n6 ∧ n6 < 2147483648 ∧ (zK σ b5 = 101 ∨ zK σ b5 = 1002) ∧ n6 < zL σ b5 ∧ ((¬ (zI σ b3 n4 : Int32) = (zI σ b5 n6) → WP g C S 104 87 [some (.ref r0), some (.int x1), some (.int x2), some (.int x3), some (.int x4)] [.int 0] σ Q) ∧ (¬ (¬ (zI σ b3 n4 : Int32) = (zI σ b5 n6)) → WP g C S 104 87 [some (.ref r0), some (.int x1), some (.int x2), some (.int x3), some (.int x4)] [.int 1] σ Q)))))))))) :
    WP g C S 104 40 [some (.ref r0), some (.int x1), some (.int x2), some (.int x3), some (.int x4)] [] σ Q := by
  refine r_g (pc' := 42) (ls' := [some (.ref r0), some (.int x1), some (.int x2), some (.int x3), some (.int x4)]) (st' := [.int x4]) dX7_real_40 (fun _ => rfl) ?_
  refine r_g (pc' := 43) (ls' := [some (.ref r0), some (.int x1), some (.int x2), some (.int x3), some (.int x4)]) (st' := [.ref r0, .int x4]) dX7_real_42 (fun _ => rfl) ?_
  obtain ⟨hK, b1, hP, h⟩ := h
  refine r_getP dX7_real_43 rfl (by decide) rfl hK hP ?_
  refine r_g (pc' := 47) (ls' := [some (.ref r0), some (.int x1), some (.int x2), some (.int x3), some (.int x4)]) (st' := [.int x1, .ref b1, .int x4]) dX7_real_46 (fun _ => rfl) ?_
  obtain ⟨n2, hj, hn, hK, hL, h⟩ := h
  refine r_iald dX7_real_47 hj hn hK hL ?_
  obtain ⟨h1, h2⟩ := h
  refine r_icmp (t := 94) dX7_real_48 (by decide) c_ge (fun c => ?_) (fun c => ?_)
  · have h := h1 c
    exact h
  · have h := h2 c
    refine r_g (pc' := 52) (ls' := [some (.ref r0), some (.int x1), some (.int x2), some (.int x3), some (.int x4)]) (st' := [.int x3]) dX7_real_51 (fun _ => rfl) ?_
    obtain ⟨h1, h2⟩ := h
    refine r_if (t := 94) dX7_real_52 (by decide) c_eq (fun c => ?_) (fun c => ?_)
    · have h := h1 c
      exact h
    · have h := h2 c
      refine r_g (pc' := 56) (ls' := [some (.ref r0), some (.int x1), some (.int x2), some (.int x3), some (.int x4)]) (st' := [.ref r0]) dX7_real_55 (fun _ => rfl) ?_
      obtain ⟨hK, b3, hP, h⟩ := h
      refine r_getP dX7_real_56 rfl (by decide) rfl hK hP ?_
      refine r_bi (v := 16) dX7_real_59 (by decide) ?_
      refine r_g (pc' := 62) (ls' := [some (.ref r0), some (.int x1), some (.int x2), some (.int x3), some (.int x4)]) (st' := [.int x2, .int 16, .ref b3]) dX7_real_61 (fun _ => rfl) ?_
      refine r_g (pc' := 63) (ls' := [some (.ref r0), some (.int x1), some (.int x2), some (.int x3), some (.int x4)]) (st' := [.int (16 * x2), .ref b3]) dX7_real_62 (fun _ => rfl) ?_
      refine r_g (pc' := 65) (ls' := [some (.ref r0), some (.int x1), some (.int x2), some (.int x3), some (.int x4)]) (st' := [.int x4, .int (16 * x2), .ref b3]) dX7_real_63 (fun _ => rfl) ?_
      refine r_g (pc' := 66) (ls' := [some (.ref r0), some (.int x1), some (.int x2), some (.int x3), some (.int x4)]) (st' := [.int ((16 * x2) + x4), .ref b3]) dX7_real_65 (fun _ => rfl) ?_
      obtain ⟨n4, hj, hn, hK, hL, h⟩ := h
      refine r_iald dX7_real_66 hj hn hK hL ?_
      refine r_g (pc' := 68) (ls' := [some (.ref r0), some (.int x1), some (.int x2), some (.int x3), some (.int x4)]) (st' := [.ref r0, .int (zI σ b3 n4)]) dX7_real_67 (fun _ => rfl) ?_
      obtain ⟨hK, b5, hP, h⟩ := h
      refine r_getP dX7_real_68 rfl (by decide) rfl hK hP ?_
      refine r_bi (v := 16) dX7_real_71 (by decide) ?_
      refine r_g (pc' := 74) (ls' := [some (.ref r0), some (.int x1), some (.int x2), some (.int x3), some (.int x4)]) (st' := [.int x1, .int 16, .ref b5, .int (zI σ b3 n4)]) dX7_real_73 (fun _ => rfl) ?_
      refine r_g (pc' := 75) (ls' := [some (.ref r0), some (.int x1), some (.int x2), some (.int x3), some (.int x4)]) (st' := [.int (16 * x1), .ref b5, .int (zI σ b3 n4)]) dX7_real_74 (fun _ => rfl) ?_
      refine r_g (pc' := 77) (ls' := [some (.ref r0), some (.int x1), some (.int x2), some (.int x3), some (.int x4)]) (st' := [.int x4, .int (16 * x1), .ref b5, .int (zI σ b3 n4)]) dX7_real_75 (fun _ => rfl) ?_
      refine r_g (pc' := 78) (ls' := [some (.ref r0), some (.int x1), some (.int x2), some (.int x3), some (.int x4)]) (st' := [.int ((16 * x1) + x4), .ref b5, .int (zI σ b3 n4)]) dX7_real_77 (fun _ => rfl) ?_
      obtain ⟨n6, hj, hn, hK, hL, h⟩ := h
      refine r_iald dX7_real_78 hj hn hK hL ?_
      obtain ⟨h1, h2⟩ := h
      refine r_icmp (t := 86) dX7_real_79 (by decide) c_ne (fun c => ?_) (fun c => ?_)
      · have h := h1 c
        refine r_ic (v := 0) dX7_real_86 (by decide) ?_
        exact h
      · have h := h2 c
        refine r_ic (v := 1) dX7_real_82 (by decide) ?_
        refine r_goto (t := 87) dX7_real_83 (by decide) ?_
        exact h
theorem b104_87 {g : Nat → Nat} {C S : Nat} {σ : PS} {Q : Rs → PS → Prop} {r0 : Nat} {x1 : Int32} {x2 : Int32} {l3 : Option Value} {x4 : Int32} {u0 : Int32}
    (h : WP g C S 104 40 [some (.ref r0), some (.int x1), some (.int x2), some (.int u0), some (.int (x4 + 1))] [] σ Q) :
    WP g C S 104 87 [some (.ref r0), some (.int x1), some (.int x2), l3, some (.int x4)] [.int u0] σ Q := by
  refine r_g (pc' := 88) (ls' := [some (.ref r0), some (.int x1), some (.int x2), some (.int u0), some (.int x4)]) (st' := []) dX7_real_87 (fun _ => rfl) ?_
  refine r_inc (v := 1) (ls' := [some (.ref r0), some (.int x1), some (.int x2), some (.int u0), some (.int (x4 + 1))]) dX7_real_88 rfl (Nat.le_of_ble_eq_true rfl) (by decide) rfl ?_
  refine r_goto (t := 40) dX7_real_91 (by decide) ?_
  exact h
theorem b104_94 {g : Nat → Nat} {C S : Nat} {σ : PS} {Q : Rs → PS → Prop} {r0 : Nat} {x1 : Int32} {x2 : Int32} {x3 : Int32} {l4 : Option Value}
    (h : ((x3 : Int32) = 0 → WP g C S 104 2 [some (.ref r0), some (.int x1), some (.int (x2 + 1)), some (.int x3), l4] [] σ Q) ∧ (¬ ((x3 : Int32) = 0) → Q (Sum.inl (some (.int x2))) σ)) :
    WP g C S 104 94 [some (.ref r0), some (.int x1), some (.int x2), some (.int x3), l4] [] σ Q := by
  refine r_g (pc' := 95) (ls' := [some (.ref r0), some (.int x1), some (.int x2), some (.int x3), l4]) (st' := [.int x3]) dX7_real_94 (fun _ => rfl) ?_
  obtain ⟨h1, h2⟩ := h
  refine r_if (t := 100) dX7_real_95 (by decide) c_eq (fun c => ?_) (fun c => ?_)
  · have h := h1 c
    refine r_inc (v := 1) (ls' := [some (.ref r0), some (.int x1), some (.int (x2 + 1)), some (.int x3), l4]) dX7_real_100 rfl (Nat.le_of_ble_eq_true rfl) (by decide) rfl ?_
    refine r_goto (t := 2) dX7_real_103 (by decide) ?_
    exact h
  · have h := h2 c
    refine r_g (pc' := 99) (ls' := [some (.ref r0), some (.int x1), some (.int x2), some (.int x3), l4]) (st' := [.int x2]) dX7_real_98 (fun _ => rfl) ?_
    exact r_ret dX7_real_99 rfl h
theorem b104_106 {g : Nat → Nat} {C S : Nat} {σ : PS} {Q : Rs → PS → Prop} {l0 : Option Value} {x1 : Int32} {l2 : Option Value} {l3 : Option Value} {l4 : Option Value}
    (h : Q (Sum.inl (some (.int x1))) σ) :
    WP g C S 104 106 [l0, some (.int x1), l2, l3, l4] [] σ Q := by
  refine r_g (pc' := 107) (ls' := [l0, some (.int x1), l2, l3, l4]) (st' := [.int x1]) dX7_real_106 (fun _ => rfl) ?_
  exact r_ret dX7_real_107 rfl h
theorem b105_0 {g : Nat → Nat} {C S : Nat} {σ : PS} {Q : Rs → PS → Prop} {x0 : Int32} {l1 : Option Value}
    (h : ((192 : Int32) ≤ x0 → (¬ (x0 : Int32) = 223 → ((x0 : Int32) = 222 → WP g C S 105 52 [some (.int x0), l1] [] σ Q) ∧ (¬ ((x0 : Int32) = 222) → (¬ (x0 : Int32) = 254 → ((224 : Int32) ≤ x0 → WP g C S 105 70 [some (.int x0), l1] [.int x0] σ Q) ∧ (¬ ((224 : Int32) ≤ x0) → WP g C S 105 70 [some (.int x0), l1] [.int (x0 + 32)] σ Q)) ∧ (¬ (¬ (x0 : Int32) = 254) → WP g C S 105 52 [some (.int x0), l1] [] σ Q))) ∧ (¬ (¬ (x0 : Int32) = 223) → Q (Sum.inl (some (.int 115))) σ)) ∧ (¬ ((192 : Int32) ≤ x0) → ((x0 : Int32) < 65 → WP g C S 105 26 [some (.int x0), l1] [] σ Q) ∧ (¬ ((x0 : Int32) < 65) → ((90 : Int32) < x0 → WP g C S 105 26 [some (.int x0), l1] [] σ Q) ∧ (¬ ((90 : Int32) < x0) → WP g C S 105 27 [some (.int x0), l1] [.int (x0 + 32)] σ Q)))) :
    WP g C S 105 0 [some (.int x0), l1] [] σ Q := by
  refine r_g (pc' := 1) (ls' := [some (.int x0), l1]) (st' := [.int x0]) dX7_fold_0 (fun _ => rfl) ?_
  refine r_si (v := 192) dX7_fold_1 (by decide) ?_
  obtain ⟨h1, h2⟩ := h
  refine r_icmp (t := 28) dX7_fold_4 (by decide) c_ge (fun c => ?_) (fun c => ?_)
  · have h := h1 c
    refine r_g (pc' := 29) (ls' := [some (.int x0), l1]) (st' := [.int x0]) dX7_fold_28 (fun _ => rfl) ?_
    refine r_si (v := 223) dX7_fold_29 (by decide) ?_
    obtain ⟨h1, h2⟩ := h
    refine r_icmp (t := 38) dX7_fold_32 (by decide) c_ne (fun c => ?_) (fun c => ?_)
    · have h := h1 c
      refine r_g (pc' := 39) (ls' := [some (.int x0), l1]) (st' := [.int x0]) dX7_fold_38 (fun _ => rfl) ?_
      refine r_si (v := 222) dX7_fold_39 (by decide) ?_
      obtain ⟨h1, h2⟩ := h
      refine r_icmp (t := 52) dX7_fold_42 (by decide) c_eq (fun c => ?_) (fun c => ?_)
      · have h := h1 c
        exact h
      · have h := h2 c
        refine r_g (pc' := 46) (ls' := [some (.int x0), l1]) (st' := [.int x0]) dX7_fold_45 (fun _ => rfl) ?_
        refine r_si (v := 254) dX7_fold_46 (by decide) ?_
        obtain ⟨h1, h2⟩ := h
        refine r_icmp (t := 55) dX7_fold_49 (by decide) c_ne (fun c => ?_) (fun c => ?_)
        · have h := h1 c
          refine r_g (pc' := 56) (ls' := [some (.int x0), l1]) (st' := [.int x0]) dX7_fold_55 (fun _ => rfl) ?_
          refine r_si (v := 224) dX7_fold_56 (by decide) ?_
          obtain ⟨h1, h2⟩ := h
          refine r_icmp (t := 69) dX7_fold_59 (by decide) c_ge (fun c => ?_) (fun c => ?_)
          · have h := h1 c
            refine r_g (pc' := 70) (ls' := [some (.int x0), l1]) (st' := [.int x0]) dX7_fold_69 (fun _ => rfl) ?_
            exact h
          · have h := h2 c
            refine r_g (pc' := 63) (ls' := [some (.int x0), l1]) (st' := [.int x0]) dX7_fold_62 (fun _ => rfl) ?_
            refine r_bi (v := 32) dX7_fold_63 (by decide) ?_
            refine r_g (pc' := 66) (ls' := [some (.int x0), l1]) (st' := [.int (x0 + 32)]) dX7_fold_65 (fun _ => rfl) ?_
            refine r_goto (t := 70) dX7_fold_66 (by decide) ?_
            exact h
        · have h := h2 c
          exact h
    · have h := h2 c
      refine r_bi (v := 115) dX7_fold_35 (by decide) ?_
      exact r_ret dX7_fold_37 rfl h
  · have h := h2 c
    refine r_g (pc' := 8) (ls' := [some (.int x0), l1]) (st' := [.int x0]) dX7_fold_7 (fun _ => rfl) ?_
    refine r_bi (v := 65) dX7_fold_8 (by decide) ?_
    obtain ⟨h1, h2⟩ := h
    refine r_icmp (t := 26) dX7_fold_10 (by decide) c_lt (fun c => ?_) (fun c => ?_)
    · have h := h1 c
      exact h
    · have h := h2 c
      refine r_g (pc' := 14) (ls' := [some (.int x0), l1]) (st' := [.int x0]) dX7_fold_13 (fun _ => rfl) ?_
      refine r_bi (v := 90) dX7_fold_14 (by decide) ?_
      obtain ⟨h1, h2⟩ := h
      refine r_icmp (t := 26) dX7_fold_16 (by decide) c_gt (fun c => ?_) (fun c => ?_)
      · have h := h1 c
        exact h
      · have h := h2 c
        refine r_g (pc' := 20) (ls' := [some (.int x0), l1]) (st' := [.int x0]) dX7_fold_19 (fun _ => rfl) ?_
        refine r_bi (v := 32) dX7_fold_20 (by decide) ?_
        refine r_g (pc' := 23) (ls' := [some (.int x0), l1]) (st' := [.int (x0 + 32)]) dX7_fold_22 (fun _ => rfl) ?_
        refine r_goto (t := 27) dX7_fold_23 (by decide) ?_
        exact h
theorem b105_26 {g : Nat → Nat} {C S : Nat} {σ : PS} {Q : Rs → PS → Prop} {x0 : Int32} {l1 : Option Value}
    (h : WP g C S 105 27 [some (.int x0), l1] [.int x0] σ Q) :
    WP g C S 105 26 [some (.int x0), l1] [] σ Q := by
  refine r_g (pc' := 27) (ls' := [some (.int x0), l1]) (st' := [.int x0]) dX7_fold_26 (fun _ => rfl) ?_
  exact h
theorem b105_27 {g : Nat → Nat} {C S : Nat} {σ : PS} {Q : Rs → PS → Prop} {l0 : Option Value} {l1 : Option Value} {u0 : Int32}
    (h : Q (Sum.inl (some (.int u0))) σ) :
    WP g C S 105 27 [l0, l1] [.int u0] σ Q := by
  exact r_ret dX7_fold_27 rfl h
theorem b105_52 {g : Nat → Nat} {C S : Nat} {σ : PS} {Q : Rs → PS → Prop} {l0 : Option Value} {l1 : Option Value}
    (h : Q (Sum.inl (some (.int 116))) σ) :
    WP g C S 105 52 [l0, l1] [] σ Q := by
  refine r_bi (v := 116) dX7_fold_52 (by decide) ?_
  exact r_ret dX7_fold_54 rfl h
theorem b105_70 {g : Nat → Nat} {C S : Nat} {σ : PS} {Q : Rs → PS → Prop} {l0 : Option Value} {l1 : Option Value} {u0 : Int32}
    (h : ((232 : Int32) ≤ u0 → ((240 : Int32) ≤ u0 → ((249 : Int32) ≤ u0 → ((253 : Int32) ≤ u0 → WP g C S 105 163 [(clr l0), some (.int u0)] [.int 121] σ Q) ∧ (¬ ((253 : Int32) ≤ u0) → WP g C S 105 163 [(clr l0), some (.int u0)] [.int 117] σ Q)) ∧ (¬ ((249 : Int32) ≤ u0) → (¬ (u0 : Int32) = 240 → (¬ (u0 : Int32) = 241 → WP g C S 105 148 [(clr l0), some (.int u0)] [.int 111] σ Q) ∧ (¬ (¬ (u0 : Int32) = 241) → WP g C S 105 148 [(clr l0), some (.int u0)] [.int 110] σ Q)) ∧ (¬ (¬ (u0 : Int32) = 240) → WP g C S 105 148 [(clr l0), some (.int u0)] [.int 100] σ Q))) ∧ (¬ ((240 : Int32) ≤ u0) → ((236 : Int32) ≤ u0 → WP g C S 105 114 [(clr l0), some (.int u0)] [.int 105] σ Q) ∧ (¬ ((236 : Int32) ≤ u0) → WP g C S 105 114 [(clr l0), some (.int u0)] [.int 101] σ Q))) ∧ (¬ ((232 : Int32) ≤ u0) → (¬ (u0 : Int32) = 231 → WP g C S 105 92 [(clr l0), some (.int u0)] [.int 97] σ Q) ∧ (¬ (¬ (u0 : Int32) = 231) → WP g C S 105 92 [(clr l0), some (.int u0)] [.int 99] σ Q))) :
    WP g C S 105 70 [l0, l1] [.int u0] σ Q := by
  refine r_g (pc' := 71) (ls' := [(clr l0), some (.int u0)]) (st' := []) dX7_fold_70 (fun _ => rfl) ?_
  refine r_g (pc' := 72) (ls' := [(clr l0), some (.int u0)]) (st' := [.int u0]) dX7_fold_71 (fun _ => rfl) ?_
  refine r_si (v := 232) dX7_fold_72 (by decide) ?_
  obtain ⟨h1, h2⟩ := h
  refine r_icmp (t := 93) dX7_fold_75 (by decide) c_ge (fun c => ?_) (fun c => ?_)
  · have h := h1 c
    refine r_g (pc' := 94) (ls' := [(clr l0), some (.int u0)]) (st' := [.int u0]) dX7_fold_93 (fun _ => rfl) ?_
    refine r_si (v := 240) dX7_fold_94 (by decide) ?_
    obtain ⟨h1, h2⟩ := h
    refine r_icmp (t := 115) dX7_fold_97 (by decide) c_ge (fun c => ?_) (fun c => ?_)
    · have h := h1 c
      refine r_g (pc' := 116) (ls' := [(clr l0), some (.int u0)]) (st' := [.int u0]) dX7_fold_115 (fun _ => rfl) ?_
      refine r_si (v := 249) dX7_fold_116 (by decide) ?_
      obtain ⟨h1, h2⟩ := h
      refine r_icmp (t := 149) dX7_fold_119 (by decide) c_ge (fun c => ?_) (fun c => ?_)
      · have h := h1 c
        refine r_g (pc' := 150) (ls' := [(clr l0), some (.int u0)]) (st' := [.int u0]) dX7_fold_149 (fun _ => rfl) ?_
        refine r_si (v := 253) dX7_fold_150 (by decide) ?_
        obtain ⟨h1, h2⟩ := h
        refine r_icmp (t := 161) dX7_fold_153 (by decide) c_ge (fun c => ?_) (fun c => ?_)
        · have h := h1 c
          refine r_bi (v := 121) dX7_fold_161 (by decide) ?_
          exact h
        · have h := h2 c
          refine r_bi (v := 117) dX7_fold_156 (by decide) ?_
          refine r_goto (t := 163) dX7_fold_158 (by decide) ?_
          exact h
      · have h := h2 c
        refine r_g (pc' := 123) (ls' := [(clr l0), some (.int u0)]) (st' := [.int u0]) dX7_fold_122 (fun _ => rfl) ?_
        refine r_si (v := 240) dX7_fold_123 (by decide) ?_
        obtain ⟨h1, h2⟩ := h
        refine r_icmp (t := 134) dX7_fold_126 (by decide) c_ne (fun c => ?_) (fun c => ?_)
        · have h := h1 c
          refine r_g (pc' := 135) (ls' := [(clr l0), some (.int u0)]) (st' := [.int u0]) dX7_fold_134 (fun _ => rfl) ?_
          refine r_si (v := 241) dX7_fold_135 (by decide) ?_
          obtain ⟨h1, h2⟩ := h
          refine r_icmp (t := 146) dX7_fold_138 (by decide) c_ne (fun c => ?_) (fun c => ?_)
          · have h := h1 c
            refine r_bi (v := 111) dX7_fold_146 (by decide) ?_
            exact h
          · have h := h2 c
            refine r_bi (v := 110) dX7_fold_141 (by decide) ?_
            refine r_goto (t := 148) dX7_fold_143 (by decide) ?_
            exact h
        · have h := h2 c
          refine r_bi (v := 100) dX7_fold_129 (by decide) ?_
          refine r_goto (t := 148) dX7_fold_131 (by decide) ?_
          exact h
    · have h := h2 c
      refine r_g (pc' := 101) (ls' := [(clr l0), some (.int u0)]) (st' := [.int u0]) dX7_fold_100 (fun _ => rfl) ?_
      refine r_si (v := 236) dX7_fold_101 (by decide) ?_
      obtain ⟨h1, h2⟩ := h
      refine r_icmp (t := 112) dX7_fold_104 (by decide) c_ge (fun c => ?_) (fun c => ?_)
      · have h := h1 c
        refine r_bi (v := 105) dX7_fold_112 (by decide) ?_
        exact h
      · have h := h2 c
        refine r_bi (v := 101) dX7_fold_107 (by decide) ?_
        refine r_goto (t := 114) dX7_fold_109 (by decide) ?_
        exact h
  · have h := h2 c
    refine r_g (pc' := 79) (ls' := [(clr l0), some (.int u0)]) (st' := [.int u0]) dX7_fold_78 (fun _ => rfl) ?_
    refine r_si (v := 231) dX7_fold_79 (by decide) ?_
    obtain ⟨h1, h2⟩ := h
    refine r_icmp (t := 90) dX7_fold_82 (by decide) c_ne (fun c => ?_) (fun c => ?_)
    · have h := h1 c
      refine r_bi (v := 97) dX7_fold_90 (by decide) ?_
      exact h
    · have h := h2 c
      refine r_bi (v := 99) dX7_fold_85 (by decide) ?_
      refine r_goto (t := 92) dX7_fold_87 (by decide) ?_
      exact h
theorem b105_92 {g : Nat → Nat} {C S : Nat} {σ : PS} {Q : Rs → PS → Prop} {l0 : Option Value} {l1 : Option Value} {u0 : Int32}
    (h : Q (Sum.inl (some (.int u0))) σ) :
    WP g C S 105 92 [l0, l1] [.int u0] σ Q := by
  exact r_ret dX7_fold_92 rfl h
theorem b105_114 {g : Nat → Nat} {C S : Nat} {σ : PS} {Q : Rs → PS → Prop} {l0 : Option Value} {l1 : Option Value} {u0 : Int32}
    (h : Q (Sum.inl (some (.int u0))) σ) :
    WP g C S 105 114 [l0, l1] [.int u0] σ Q := by
  exact r_ret dX7_fold_114 rfl h
theorem b105_148 {g : Nat → Nat} {C S : Nat} {σ : PS} {Q : Rs → PS → Prop} {l0 : Option Value} {l1 : Option Value} {u0 : Int32}
    (h : Q (Sum.inl (some (.int u0))) σ) :
    WP g C S 105 148 [l0, l1] [.int u0] σ Q := by
  exact r_ret dX7_fold_148 rfl h
theorem b105_163 {g : Nat → Nat} {C S : Nat} {σ : PS} {Q : Rs → PS → Prop} {l0 : Option Value} {l1 : Option Value} {u0 : Int32}
    (h : Q (Sum.inl (some (.int u0))) σ) :
    WP g C S 105 163 [l0, l1] [.int u0] σ Q := by
  exact r_ret dX7_fold_163 rfl h
theorem b106_0 {g : Nat → Nat} {C S : Nat} {σ : PS} {Q : Rs → PS → Prop} {x0 : Int32}
    (h : ((x0 : Int32) < 97 → WP g C S 106 12 [some (.int x0)] [] σ Q) ∧ (¬ ((x0 : Int32) < 97) → ((x0 : Int32) ≤ 122 → WP g C S 106 19 [some (.int x0)] [] σ Q) ∧ (¬ ((x0 : Int32) ≤ 122) → WP g C S 106 12 [some (.int x0)] [] σ Q))) :
    WP g C S 106 0 [some (.int x0)] [] σ Q := by
  refine r_g (pc' := 1) (ls' := [some (.int x0)]) (st' := [.int x0]) dX7_isSmall_0 (fun _ => rfl) ?_
  refine r_bi (v := 97) dX7_isSmall_1 (by decide) ?_
  obtain ⟨h1, h2⟩ := h
  refine r_icmp (t := 12) dX7_isSmall_3 (by decide) c_lt (fun c => ?_) (fun c => ?_)
  · have h := h1 c
    exact h
  · have h := h2 c
    refine r_g (pc' := 7) (ls' := [some (.int x0)]) (st' := [.int x0]) dX7_isSmall_6 (fun _ => rfl) ?_
    refine r_bi (v := 122) dX7_isSmall_7 (by decide) ?_
    obtain ⟨h1, h2⟩ := h
    refine r_icmp (t := 19) dX7_isSmall_9 (by decide) c_le (fun c => ?_) (fun c => ?_)
    · have h := h1 c
      exact h
    · have h := h2 c
      exact h
theorem b106_12 {g : Nat → Nat} {C S : Nat} {σ : PS} {Q : Rs → PS → Prop} {x0 : Int32}
    (h : ((x0 : Int32) ≤ 222 → WP g C S 106 24 [some (.int x0)] [.int 0] σ Q) ∧ (¬ ((x0 : Int32) ≤ 222) → WP g C S 106 19 [some (.int x0)] [] σ Q)) :
    WP g C S 106 12 [some (.int x0)] [] σ Q := by
  refine r_g (pc' := 13) (ls' := [some (.int x0)]) (st' := [.int x0]) dX7_isSmall_12 (fun _ => rfl) ?_
  refine r_si (v := 222) dX7_isSmall_13 (by decide) ?_
  obtain ⟨h1, h2⟩ := h
  refine r_icmp (t := 23) dX7_isSmall_16 (by decide) c_le (fun c => ?_) (fun c => ?_)
  · have h := h1 c
    refine r_ic (v := 0) dX7_isSmall_23 (by decide) ?_
    exact h
  · have h := h2 c
    exact h
theorem b106_19 {g : Nat → Nat} {C S : Nat} {σ : PS} {Q : Rs → PS → Prop} {l0 : Option Value}
    (h : WP g C S 106 24 [l0] [.int 1] σ Q) :
    WP g C S 106 19 [l0] [] σ Q := by
  refine r_ic (v := 1) dX7_isSmall_19 (by decide) ?_
  refine r_goto (t := 24) dX7_isSmall_20 (by decide) ?_
  exact h
theorem b106_24 {g : Nat → Nat} {C S : Nat} {σ : PS} {Q : Rs → PS → Prop} {l0 : Option Value} {u0 : Int32}
    (h : ((u0 : Int32) = 0 ∨ u0 = 1) ∧ Q (Sum.inl (some (.int u0))) σ) :
    WP g C S 106 24 [l0] [.int u0] σ Q := by
  obtain ⟨hn, h⟩ := h
  exact r_ret dX7_isSmall_24 (by rcases hn with q | q <;> rw [q] <;> rfl) h
theorem b107_0 {g : Nat → Nat} {C S : Nat} {σ : PS} {Q : Rs → PS → Prop} {r0 : Nat} {x1 : Int32}
    (h : zK σ r0 = 9 ∧ ∃ b1, zP σ r0 13 = some b1 ∧ (zK σ r0 = 9 ∧ ∃ b2, zP σ r0 15 = some b2 ∧ (∃ n3 : Nat, x1 = nI n3 ∧ n3 < 2147483648 ∧ (zK σ b2 = 101 ∨ zK σ b2 = 1002) ∧ n3 < zL σ b2 ∧ (∃ n4 : Nat, zI σ b2 n3 = nI n4 ∧ n4 < 2147483648 ∧ (zK σ b1 = 101 ∨ zK σ b1 = 1002) ∧ n4 < zL σ b1 ∧ (WP g C S 106 0 [some (.int (zI σ b1 n4))] [] σ (KK g C S 107 14 [some (.ref r0), some (.int x1)] [] Q false)))))) :
    WP g C S 107 0 [some (.ref r0), some (.int x1)] [] σ Q := by
  refine r_g (pc' := 1) (ls' := [some (.ref r0), some (.int x1)]) (st' := [.ref r0]) dX7_startsSmall_0 (fun _ => rfl) ?_
  obtain ⟨hK, b1, hP, h⟩ := h
  refine r_getP dX7_startsSmall_1 rfl (by decide) rfl hK hP ?_
  refine r_g (pc' := 5) (ls' := [some (.ref r0), some (.int x1)]) (st' := [.ref r0, .ref b1]) dX7_startsSmall_4 (fun _ => rfl) ?_
  obtain ⟨hK, b2, hP, h⟩ := h
  refine r_getP dX7_startsSmall_5 rfl (by decide) rfl hK hP ?_
  refine r_g (pc' := 9) (ls' := [some (.ref r0), some (.int x1)]) (st' := [.int x1, .ref b2, .ref b1]) dX7_startsSmall_8 (fun _ => rfl) ?_
  obtain ⟨n3, hj, hn, hK, hL, h⟩ := h
  refine r_iald dX7_startsSmall_9 hj hn hK hL ?_
  obtain ⟨n4, hj, hn, hK, hL, h⟩ := h
  refine r_iald dX7_startsSmall_10 hj hn hK hL ?_
  exact r_call (th := false) dX7_startsSmall_11 (fun _ => ex_calS rfl (by decide)) rfl (Nat.le_of_ble_eq_true rfl) (Nat.le_of_ble_eq_true rfl) (Nat.le_of_ble_eq_true rfl) rfl rfl rfl rfl (fun q => nomatch q) h
theorem b107_14 {g : Nat → Nat} {C S : Nat} {σ : PS} {Q : Rs → PS → Prop} {l0 : Option Value} {l1 : Option Value} {u0 : Int32}
    (h : ((u0 : Int32) = 0 ∨ u0 = 1) ∧ Q (Sum.inl (some (.int u0))) σ) :
    WP g C S 107 14 [l0, l1] [.int u0] σ Q := by
  obtain ⟨hn, h⟩ := h
  exact r_ret dX7_startsSmall_14 (by rcases hn with q | q <;> rw [q] <;> rfl) h
theorem b108_0 {g : Nat → Nat} {C S : Nat} {σ : PS} {Q : Rs → PS → Prop} {r0 : Nat} {x1 : Int32} {x2 : Int32} {x3 : Int32} {l4 : Option Value}
    (h : zK σ r0 = 9 ∧ ∃ b1, zP σ r0 14 = some b1 ∧ (∃ n2 : Nat, x1 = nI n2 ∧ n2 < 2147483648 ∧ (zK σ b1 = 101 ∨ zK σ b1 = 1002) ∧ n2 < zL σ b1 ∧ (zK σ r0 = 9 ∧ ∃ b3, zP σ r0 15 = some b3 ∧ (∃ n4 : Nat, (64 * x1) + (zI σ b1 n2) = nI n4 ∧ n4 < 2147483648 ∧ zK σ b3 = 101 ∧ n4 < zL σ b3 ∧ (∀ τ5, τ5 = stI σ b3 n4 x2 → zK τ5 r0 = 9 ∧ ∃ b6, zP τ5 r0 16 = some b6 ∧ (∃ n7 : Nat, (64 * x1) + (zI σ b1 n2) = nI n7 ∧ n7 < 2147483648 ∧ zK τ5 b6 = 101 ∧ n7 < zL τ5 b6 ∧ (∀ τ8, τ8 = stI τ5 b6 n7 x3 → zK τ8 r0 = 9 ∧ ∃ b9, zP τ8 r0 17 = some b9 ∧ (zK τ8 r0 = 9 ∧ ∃ b10, zP τ8 r0 19 = some b10 ∧ (∃ n11 : Nat, x1 = nI n11 ∧ n11 < 2147483648 ∧ (zK τ8 b10 = 101 ∨ zK τ8 b10 = 1002) ∧ n11 < zL τ8 b10 ∧ (∃ n12 : Nat, (64 * x1) + (zI σ b1 n2) = nI n12 ∧ n12 < 2147483648 ∧ zK τ8 b9 = 101 ∧ n12 < zL τ8 b9 ∧ (∀ τ13, τ13 = stI τ8 b9 n12 (zI τ8 b10 n11) → zK τ13 r0 = 9 ∧ ∃ b14, zP τ13 r0 14 = some b14 ∧ (∃ n15 : Nat, x1 = nI n15 ∧ n15 < 2147483648 ∧ (zK τ13 b14 = 101 ∨ zK τ13 b14 = 1002) ∧ n15 < zL τ13 b14 ∧ (∃ n16 : Nat, x1 = nI n16 ∧ n16 < 2147483648 ∧ zK τ13 b14 = 101 ∧ n16 < zL τ13 b14 ∧ (∀ τ17, τ17 = stI τ13 b14 n16 ((zI τ13 b14 n15) + 1) → Q (Sum.inl none) τ17)))))))))))))) :
    WP g C S 108 0 [some (.ref r0), some (.int x1), some (.int x2), some (.int x3), l4] [] σ Q := by
  refine r_bi (v := 64) dX7_addWord_0 (by decide) ?_
  refine r_g (pc' := 3) (ls' := [some (.ref r0), some (.int x1), some (.int x2), some (.int x3), l4]) (st' := [.int x1, .int 64]) dX7_addWord_2 (fun _ => rfl) ?_
  refine r_g (pc' := 4) (ls' := [some (.ref r0), some (.int x1), some (.int x2), some (.int x3), l4]) (st' := [.int (64 * x1)]) dX7_addWord_3 (fun _ => rfl) ?_
  refine r_g (pc' := 5) (ls' := [some (.ref r0), some (.int x1), some (.int x2), some (.int x3), l4]) (st' := [.ref r0, .int (64 * x1)]) dX7_addWord_4 (fun _ => rfl) ?_
  obtain ⟨hK, b1, hP, h⟩ := h
  refine r_getP dX7_addWord_5 rfl (by decide) rfl hK hP ?_
  refine r_g (pc' := 9) (ls' := [some (.ref r0), some (.int x1), some (.int x2), some (.int x3), l4]) (st' := [.int x1, .ref b1, .int (64 * x1)]) dX7_addWord_8 (fun _ => rfl) ?_
  obtain ⟨n2, hj, hn, hK, hL, h⟩ := h
  refine r_iald dX7_addWord_9 hj hn hK hL ?_
  refine r_g (pc' := 11) (ls' := [some (.ref r0), some (.int x1), some (.int x2), some (.int x3), l4]) (st' := [.int ((64 * x1) + (zI σ b1 n2))]) dX7_addWord_10 (fun _ => rfl) ?_
  refine r_g (pc' := 13) (ls' := [some (.ref r0), some (.int x1), some (.int x2), some (.int x3), some (.int ((64 * x1) + (zI σ b1 n2)))]) (st' := []) dX7_addWord_11 (fun _ => rfl) ?_
  refine r_g (pc' := 14) (ls' := [some (.ref r0), some (.int x1), some (.int x2), some (.int x3), some (.int ((64 * x1) + (zI σ b1 n2)))]) (st' := [.ref r0]) dX7_addWord_13 (fun _ => rfl) ?_
  obtain ⟨hK, b3, hP, h⟩ := h
  refine r_getP dX7_addWord_14 rfl (by decide) rfl hK hP ?_
  refine r_g (pc' := 19) (ls' := [some (.ref r0), some (.int x1), some (.int x2), some (.int x3), some (.int ((64 * x1) + (zI σ b1 n2)))]) (st' := [.int ((64 * x1) + (zI σ b1 n2)), .ref b3]) dX7_addWord_17 (fun _ => rfl) ?_
  refine r_g (pc' := 20) (ls' := [some (.ref r0), some (.int x1), some (.int x2), some (.int x3), some (.int ((64 * x1) + (zI σ b1 n2)))]) (st' := [.int x2, .int ((64 * x1) + (zI σ b1 n2)), .ref b3]) dX7_addWord_19 (fun _ => rfl) ?_
  obtain ⟨n4, hj, hn, hK, hL, h⟩ := h
  refine r_iast dX7_addWord_20 hj hn hK hL ?_
  generalize eτ5 : stI σ b3 n4 x2 = τ5
  replace h := h _ eτ5.symm
  refine r_g (pc' := 22) (ls' := [some (.ref r0), some (.int x1), some (.int x2), some (.int x3), some (.int ((64 * x1) + (zI σ b1 n2)))]) (st' := [.ref r0]) dX7_addWord_21 (fun _ => rfl) ?_
  obtain ⟨hK, b6, hP, h⟩ := h
  refine r_getP dX7_addWord_22 rfl (by decide) rfl hK hP ?_
  refine r_g (pc' := 27) (ls' := [some (.ref r0), some (.int x1), some (.int x2), some (.int x3), some (.int ((64 * x1) + (zI σ b1 n2)))]) (st' := [.int ((64 * x1) + (zI σ b1 n2)), .ref b6]) dX7_addWord_25 (fun _ => rfl) ?_
  refine r_g (pc' := 28) (ls' := [some (.ref r0), some (.int x1), some (.int x2), some (.int x3), some (.int ((64 * x1) + (zI σ b1 n2)))]) (st' := [.int x3, .int ((64 * x1) + (zI σ b1 n2)), .ref b6]) dX7_addWord_27 (fun _ => rfl) ?_
  obtain ⟨n7, hj, hn, hK, hL, h⟩ := h
  refine r_iast dX7_addWord_28 hj hn hK hL ?_
  generalize eτ8 : stI τ5 b6 n7 x3 = τ8
  replace h := h _ eτ8.symm
  refine r_g (pc' := 30) (ls' := [some (.ref r0), some (.int x1), some (.int x2), some (.int x3), some (.int ((64 * x1) + (zI σ b1 n2)))]) (st' := [.ref r0]) dX7_addWord_29 (fun _ => rfl) ?_
  obtain ⟨hK, b9, hP, h⟩ := h
  refine r_getP dX7_addWord_30 rfl (by decide) rfl hK hP ?_
  refine r_g (pc' := 35) (ls' := [some (.ref r0), some (.int x1), some (.int x2), some (.int x3), some (.int ((64 * x1) + (zI σ b1 n2)))]) (st' := [.int ((64 * x1) + (zI σ b1 n2)), .ref b9]) dX7_addWord_33 (fun _ => rfl) ?_
  refine r_g (pc' := 36) (ls' := [some (.ref r0), some (.int x1), some (.int x2), some (.int x3), some (.int ((64 * x1) + (zI σ b1 n2)))]) (st' := [.ref r0, .int ((64 * x1) + (zI σ b1 n2)), .ref b9]) dX7_addWord_35 (fun _ => rfl) ?_
  obtain ⟨hK, b10, hP, h⟩ := h
  refine r_getP dX7_addWord_36 rfl (by decide) rfl hK hP ?_
  refine r_g (pc' := 40) (ls' := [some (.ref r0), some (.int x1), some (.int x2), some (.int x3), some (.int ((64 * x1) + (zI σ b1 n2)))]) (st' := [.int x1, .ref b10, .int ((64 * x1) + (zI σ b1 n2)), .ref b9]) dX7_addWord_39 (fun _ => rfl) ?_
  obtain ⟨n11, hj, hn, hK, hL, h⟩ := h
  refine r_iald dX7_addWord_40 hj hn hK hL ?_
  obtain ⟨n12, hj, hn, hK, hL, h⟩ := h
  refine r_iast dX7_addWord_41 hj hn hK hL ?_
  generalize eτ13 : stI τ8 b9 n12 (zI τ8 b10 n11) = τ13
  replace h := h _ eτ13.symm
  refine r_g (pc' := 43) (ls' := [some (.ref r0), some (.int x1), some (.int x2), some (.int x3), some (.int ((64 * x1) + (zI σ b1 n2)))]) (st' := [.ref r0]) dX7_addWord_42 (fun _ => rfl) ?_
  obtain ⟨hK, b14, hP, h⟩ := h
  refine r_getP dX7_addWord_43 rfl (by decide) rfl hK hP ?_
  refine r_g (pc' := 47) (ls' := [some (.ref r0), some (.int x1), some (.int x2), some (.int x3), some (.int ((64 * x1) + (zI σ b1 n2)))]) (st' := [.int x1, .ref b14]) dX7_addWord_46 (fun _ => rfl) ?_
  refine r_g (pc' := 48) (ls' := [some (.ref r0), some (.int x1), some (.int x2), some (.int x3), some (.int ((64 * x1) + (zI σ b1 n2)))]) (st' := [.int x1, .ref b14, .int x1, .ref b14]) dX7_addWord_47 (fun _ => rfl) ?_
  obtain ⟨n15, hj, hn, hK, hL, h⟩ := h
  refine r_iald dX7_addWord_48 hj hn hK hL ?_
  refine r_ic (v := 1) dX7_addWord_49 (by decide) ?_
  refine r_g (pc' := 51) (ls' := [some (.ref r0), some (.int x1), some (.int x2), some (.int x3), some (.int ((64 * x1) + (zI σ b1 n2)))]) (st' := [.int ((zI τ13 b14 n15) + 1), .int x1, .ref b14]) dX7_addWord_50 (fun _ => rfl) ?_
  obtain ⟨n16, hj, hn, hK, hL, h⟩ := h
  refine r_iast dX7_addWord_51 hj hn hK hL ?_
  generalize eτ17 : stI τ13 b14 n16 ((zI τ13 b14 n15) + 1) = τ17
  replace h := h _ eτ17.symm
  exact r_vret dX7_addWord_52 rfl h
theorem b109_0 {g : Nat → Nat} {C S : Nat} {σ : PS} {Q : Rs → PS → Prop} {r0 : Nat} {x1 : Int32} {x2 : Int32} {x3 : Int32} {l4 : Option Value} {l5 : Option Value} {l6 : Option Value} {l7 : Option Value} {l8 : Option Value} {l9 : Option Value}
    (h : zK σ r0 = 9 ∧ ∃ b1, zP σ r0 14 = some b1 ∧ (∃ n2 : Nat, x1 = nI n2 ∧ n2 < 2147483648 ∧ (zK σ b1 = 101 ∨ zK σ b1 = 1002) ∧ n2 < zL σ b1 ∧ ((¬ ((zI σ b1 n2) - x2 : Int32) = 0 → (¬ (x3 : Int32) = (-1) → WP g C S 109 152 [some (.ref r0), some (.int x1), some (.int x2), some (.int x3), some (.int ((zI σ b1 n2) - x2)), some (.int ((64 * x1) + x2)), some (.int (((zI σ b1 n2) - x2) - 1)), some (.int (((zI σ b1 n2) - x2) - 1)), some (.int 0), l9] [] σ Q) ∧ (¬ (¬ (x3 : Int32) = (-1)) → WP g C S 109 47 [some (.ref r0), some (.int x1), some (.int x2), some (.int x3), some (.int ((zI σ b1 n2) - x2)), some (.int ((64 * x1) + x2)), some (.int (((zI σ b1 n2) - x2) - 1)), some (.int (((zI σ b1 n2) - x2) - 1)), some (.int 0), some (.int 0)] [] σ Q)) ∧ (¬ (¬ ((zI σ b1 n2) - x2 : Int32) = 0) → Q (Sum.inl none) σ)))) :
    WP g C S 109 0 [some (.ref r0), some (.int x1), some (.int x2), some (.int x3), l4, l5, l6, l7, l8, l9] [] σ Q := by
  refine r_g (pc' := 1) (ls' := [some (.ref r0), some (.int x1), some (.int x2), some (.int x3), l4, l5, l6, l7, l8, l9]) (st' := [.ref r0]) dX7_endPerson_0 (fun _ => rfl) ?_
  obtain ⟨hK, b1, hP, h⟩ := h
  refine r_getP dX7_endPerson_1 rfl (by decide) rfl hK hP ?_
  refine r_g (pc' := 5) (ls' := [some (.ref r0), some (.int x1), some (.int x2), some (.int x3), l4, l5, l6, l7, l8, l9]) (st' := [.int x1, .ref b1]) dX7_endPerson_4 (fun _ => rfl) ?_
  obtain ⟨n2, hj, hn, hK, hL, h⟩ := h
  refine r_iald dX7_endPerson_5 hj hn hK hL ?_
  refine r_g (pc' := 7) (ls' := [some (.ref r0), some (.int x1), some (.int x2), some (.int x3), l4, l5, l6, l7, l8, l9]) (st' := [.int x2, .int (zI σ b1 n2)]) dX7_endPerson_6 (fun _ => rfl) ?_
  refine r_g (pc' := 8) (ls' := [some (.ref r0), some (.int x1), some (.int x2), some (.int x3), l4, l5, l6, l7, l8, l9]) (st' := [.int ((zI σ b1 n2) - x2)]) dX7_endPerson_7 (fun _ => rfl) ?_
  refine r_g (pc' := 10) (ls' := [some (.ref r0), some (.int x1), some (.int x2), some (.int x3), some (.int ((zI σ b1 n2) - x2)), l5, l6, l7, l8, l9]) (st' := []) dX7_endPerson_8 (fun _ => rfl) ?_
  refine r_g (pc' := 12) (ls' := [some (.ref r0), some (.int x1), some (.int x2), some (.int x3), some (.int ((zI σ b1 n2) - x2)), l5, l6, l7, l8, l9]) (st' := [.int ((zI σ b1 n2) - x2)]) dX7_endPerson_10 (fun _ => rfl) ?_
  obtain ⟨h1, h2⟩ := h
  refine r_if (t := 16) dX7_endPerson_12 (by decide) c_ne (fun c => ?_) (fun c => ?_)
  · have h := h1 c
    refine r_bi (v := 64) dX7_endPerson_16 (by decide) ?_
    refine r_g (pc' := 19) (ls' := [some (.ref r0), some (.int x1), some (.int x2), some (.int x3), some (.int ((zI σ b1 n2) - x2)), l5, l6, l7, l8, l9]) (st' := [.int x1, .int 64]) dX7_endPerson_18 (fun _ => rfl) ?_
    refine r_g (pc' := 20) (ls' := [some (.ref r0), some (.int x1), some (.int x2), some (.int x3), some (.int ((zI σ b1 n2) - x2)), l5, l6, l7, l8, l9]) (st' := [.int (64 * x1)]) dX7_endPerson_19 (fun _ => rfl) ?_
    refine r_g (pc' := 21) (ls' := [some (.ref r0), some (.int x1), some (.int x2), some (.int x3), some (.int ((zI σ b1 n2) - x2)), l5, l6, l7, l8, l9]) (st' := [.int x2, .int (64 * x1)]) dX7_endPerson_20 (fun _ => rfl) ?_
    refine r_g (pc' := 22) (ls' := [some (.ref r0), some (.int x1), some (.int x2), some (.int x3), some (.int ((zI σ b1 n2) - x2)), l5, l6, l7, l8, l9]) (st' := [.int ((64 * x1) + x2)]) dX7_endPerson_21 (fun _ => rfl) ?_
    refine r_g (pc' := 24) (ls' := [some (.ref r0), some (.int x1), some (.int x2), some (.int x3), some (.int ((zI σ b1 n2) - x2)), some (.int ((64 * x1) + x2)), l6, l7, l8, l9]) (st' := []) dX7_endPerson_22 (fun _ => rfl) ?_
    refine r_g (pc' := 26) (ls' := [some (.ref r0), some (.int x1), some (.int x2), some (.int x3), some (.int ((zI σ b1 n2) - x2)), some (.int ((64 * x1) + x2)), l6, l7, l8, l9]) (st' := [.int ((zI σ b1 n2) - x2)]) dX7_endPerson_24 (fun _ => rfl) ?_
    refine r_ic (v := 1) dX7_endPerson_26 (by decide) ?_
    refine r_g (pc' := 28) (ls' := [some (.ref r0), some (.int x1), some (.int x2), some (.int x3), some (.int ((zI σ b1 n2) - x2)), some (.int ((64 * x1) + x2)), l6, l7, l8, l9]) (st' := [.int (((zI σ b1 n2) - x2) - 1)]) dX7_endPerson_27 (fun _ => rfl) ?_
    refine r_g (pc' := 30) (ls' := [some (.ref r0), some (.int x1), some (.int x2), some (.int x3), some (.int ((zI σ b1 n2) - x2)), some (.int ((64 * x1) + x2)), some (.int (((zI σ b1 n2) - x2) - 1)), l7, l8, l9]) (st' := []) dX7_endPerson_28 (fun _ => rfl) ?_
    refine r_g (pc' := 32) (ls' := [some (.ref r0), some (.int x1), some (.int x2), some (.int x3), some (.int ((zI σ b1 n2) - x2)), some (.int ((64 * x1) + x2)), some (.int (((zI σ b1 n2) - x2) - 1)), l7, l8, l9]) (st' := [.int ((zI σ b1 n2) - x2)]) dX7_endPerson_30 (fun _ => rfl) ?_
    refine r_ic (v := 1) dX7_endPerson_32 (by decide) ?_
    refine r_g (pc' := 34) (ls' := [some (.ref r0), some (.int x1), some (.int x2), some (.int x3), some (.int ((zI σ b1 n2) - x2)), some (.int ((64 * x1) + x2)), some (.int (((zI σ b1 n2) - x2) - 1)), l7, l8, l9]) (st' := [.int (((zI σ b1 n2) - x2) - 1)]) dX7_endPerson_33 (fun _ => rfl) ?_
    refine r_g (pc' := 36) (ls' := [some (.ref r0), some (.int x1), some (.int x2), some (.int x3), some (.int ((zI σ b1 n2) - x2)), some (.int ((64 * x1) + x2)), some (.int (((zI σ b1 n2) - x2) - 1)), some (.int (((zI σ b1 n2) - x2) - 1)), l8, l9]) (st' := []) dX7_endPerson_34 (fun _ => rfl) ?_
    refine r_g (pc' := 37) (ls' := [some (.ref r0), some (.int x1), some (.int x2), some (.int x3), some (.int ((zI σ b1 n2) - x2)), some (.int ((64 * x1) + x2)), some (.int (((zI σ b1 n2) - x2) - 1)), some (.int (((zI σ b1 n2) - x2) - 1)), l8, l9]) (st' := [.int x3]) dX7_endPerson_36 (fun _ => rfl) ?_
    refine r_ic (v := -1) dX7_endPerson_37 (by decide) ?_
    obtain ⟨h1, h2⟩ := h
    refine r_icmp (t := 149) dX7_endPerson_38 (by decide) c_ne (fun c => ?_) (fun c => ?_)
    · have h := h1 c
      refine r_ic (v := 0) dX7_endPerson_149 (by decide) ?_
      refine r_g (pc' := 152) (ls' := [some (.ref r0), some (.int x1), some (.int x2), some (.int x3), some (.int ((zI σ b1 n2) - x2)), some (.int ((64 * x1) + x2)), some (.int (((zI σ b1 n2) - x2) - 1)), some (.int (((zI σ b1 n2) - x2) - 1)), some (.int 0), l9]) (st' := []) dX7_endPerson_150 (fun _ => rfl) ?_
      exact h
    · have h := h2 c
      refine r_ic (v := 0) dX7_endPerson_41 (by decide) ?_
      refine r_g (pc' := 44) (ls' := [some (.ref r0), some (.int x1), some (.int x2), some (.int x3), some (.int ((zI σ b1 n2) - x2)), some (.int ((64 * x1) + x2)), some (.int (((zI σ b1 n2) - x2) - 1)), some (.int (((zI σ b1 n2) - x2) - 1)), some (.int 0), l9]) (st' := []) dX7_endPerson_42 (fun _ => rfl) ?_
      refine r_ic (v := 0) dX7_endPerson_44 (by decide) ?_
      refine r_g (pc' := 47) (ls' := [some (.ref r0), some (.int x1), some (.int x2), some (.int x3), some (.int ((zI σ b1 n2) - x2)), some (.int ((64 * x1) + x2)), some (.int (((zI σ b1 n2) - x2) - 1)), some (.int (((zI σ b1 n2) - x2) - 1)), some (.int 0), some (.int 0)]) (st' := []) dX7_endPerson_45 (fun _ => rfl) ?_
      exact h
  · have h := h2 c
    exact r_vret dX7_endPerson_15 rfl h
theorem b109_47 {g : Nat → Nat} {C S : Nat} {σ : PS} {Q : Rs → PS → Prop} {r0 : Nat} {x1 : Int32} {l2 : Option Value} {l3 : Option Value} {x4 : Int32} {x5 : Int32} {x6 : Int32} {x7 : Int32} {x8 : Int32} {x9 : Int32}
    (h : ((x4 - 1 : Int32) ≤ x9 → WP g C S 109 100 [some (.ref r0), some (.int x1), l2, l3, some (.int x4), some (.int x5), some (.int x6), some (.int x7), some (.int x8), some (.int 0)] [] σ Q) ∧ (¬ ((x4 - 1 : Int32) ≤ x9) → zK σ r0 = 9 ∧ WP g C S 107 0 [some (.ref r0), some (.int (x5 + x9))] [] σ (KK g C S 109 65 [some (.ref r0), some (.int x1), l2, l3, some (.int x4), some (.int x5), some (.int x6), some (.int x7), some (.int x8), some (.int x9)] [] Q false))) :
    WP g C S 109 47 [some (.ref r0), some (.int x1), l2, l3, some (.int x4), some (.int x5), some (.int x6), some (.int x7), some (.int x8), some (.int x9)] [] σ Q := by
  refine r_g (pc' := 49) (ls' := [some (.ref r0), some (.int x1), l2, l3, some (.int x4), some (.int x5), some (.int x6), some (.int x7), some (.int x8), some (.int x9)]) (st' := [.int x9]) dX7_endPerson_47 (fun _ => rfl) ?_
  refine r_g (pc' := 51) (ls' := [some (.ref r0), some (.int x1), l2, l3, some (.int x4), some (.int x5), some (.int x6), some (.int x7), some (.int x8), some (.int x9)]) (st' := [.int x4, .int x9]) dX7_endPerson_49 (fun _ => rfl) ?_
  refine r_ic (v := 1) dX7_endPerson_51 (by decide) ?_
  refine r_g (pc' := 53) (ls' := [some (.ref r0), some (.int x1), l2, l3, some (.int x4), some (.int x5), some (.int x6), some (.int x7), some (.int x8), some (.int x9)]) (st' := [.int (x4 - 1), .int x9]) dX7_endPerson_52 (fun _ => rfl) ?_
  obtain ⟨h1, h2⟩ := h
  refine r_icmp (t := 97) dX7_endPerson_53 (by decide) c_ge (fun c => ?_) (fun c => ?_)
  · have h := h1 c
    refine r_ic (v := 0) dX7_endPerson_97 (by decide) ?_
    refine r_g (pc' := 100) (ls' := [some (.ref r0), some (.int x1), l2, l3, some (.int x4), some (.int x5), some (.int x6), some (.int x7), some (.int x8), some (.int 0)]) (st' := []) dX7_endPerson_98 (fun _ => rfl) ?_
    exact h
  · have h := h2 c
    refine r_g (pc' := 57) (ls' := [some (.ref r0), some (.int x1), l2, l3, some (.int x4), some (.int x5), some (.int x6), some (.int x7), some (.int x8), some (.int x9)]) (st' := [.ref r0]) dX7_endPerson_56 (fun _ => rfl) ?_
    refine r_g (pc' := 59) (ls' := [some (.ref r0), some (.int x1), l2, l3, some (.int x4), some (.int x5), some (.int x6), some (.int x7), some (.int x8), some (.int x9)]) (st' := [.int x5, .ref r0]) dX7_endPerson_57 (fun _ => rfl) ?_
    refine r_g (pc' := 61) (ls' := [some (.ref r0), some (.int x1), l2, l3, some (.int x4), some (.int x5), some (.int x6), some (.int x7), some (.int x8), some (.int x9)]) (st' := [.int x9, .int x5, .ref r0]) dX7_endPerson_59 (fun _ => rfl) ?_
    refine r_g (pc' := 62) (ls' := [some (.ref r0), some (.int x1), l2, l3, some (.int x4), some (.int x5), some (.int x6), some (.int x7), some (.int x8), some (.int x9)]) (st' := [.int (x5 + x9), .ref r0]) dX7_endPerson_61 (fun _ => rfl) ?_
    obtain ⟨hK, h⟩ := h
    exact r_call (th := false) dX7_endPerson_62 (fun _ => ex_calV rfl (by decide)) rfl (Nat.le_of_ble_eq_true rfl) (Nat.le_of_ble_eq_true rfl) (Nat.le_of_ble_eq_true rfl) (rcv0 rfl rfl (by decide) hK) rfl rfl rfl (fun q => nomatch q) h
theorem b109_65 {g : Nat → Nat} {C S : Nat} {σ : PS} {Q : Rs → PS → Prop} {r0 : Nat} {x1 : Int32} {l2 : Option Value} {l3 : Option Value} {x4 : Int32} {x5 : Int32} {x6 : Int32} {x7 : Int32} {x8 : Int32} {x9 : Int32} {u0 : Int32}
    (h : ((u0 : Int32) = 0 → WP g C S 109 91 [some (.ref r0), some (.int x1), l2, l3, some (.int x4), some (.int x5), some (.int x6), some (.int x7), some (.int x8), some (.int x9)] [] σ Q) ∧ (¬ ((u0 : Int32) = 0) → ((x8 : Int32) = 0 → WP g C S 109 80 [some (.ref r0), some (.int x1), l2, l3, some (.int x4), some (.int x5), some (.int x6), some (.int x7), some (.int x8), some (.int x9)] [.int x9] σ Q) ∧ (¬ ((x8 : Int32) = 0) → WP g C S 109 80 [some (.ref r0), some (.int x1), l2, l3, some (.int x4), some (.int x5), some (.int x6), some (.int x7), some (.int x8), some (.int x9)] [.int x6] σ Q))) :
    WP g C S 109 65 [some (.ref r0), some (.int x1), l2, l3, some (.int x4), some (.int x5), some (.int x6), some (.int x7), some (.int x8), some (.int x9)] [.int u0] σ Q := by
  obtain ⟨h1, h2⟩ := h
  refine r_if (t := 91) dX7_endPerson_65 (by decide) c_eq (fun c => ?_) (fun c => ?_)
  · have h := h1 c
    exact h
  · have h := h2 c
    refine r_g (pc' := 70) (ls' := [some (.ref r0), some (.int x1), l2, l3, some (.int x4), some (.int x5), some (.int x6), some (.int x7), some (.int x8), some (.int x9)]) (st' := [.int x8]) dX7_endPerson_68 (fun _ => rfl) ?_
    obtain ⟨h1, h2⟩ := h
    refine r_if (t := 78) dX7_endPerson_70 (by decide) c_eq (fun c => ?_) (fun c => ?_)
    · have h := h1 c
      refine r_g (pc' := 80) (ls' := [some (.ref r0), some (.int x1), l2, l3, some (.int x4), some (.int x5), some (.int x6), some (.int x7), some (.int x8), some (.int x9)]) (st' := [.int x9]) dX7_endPerson_78 (fun _ => rfl) ?_
      exact h
    · have h := h2 c
      refine r_g (pc' := 75) (ls' := [some (.ref r0), some (.int x1), l2, l3, some (.int x4), some (.int x5), some (.int x6), some (.int x7), some (.int x8), some (.int x9)]) (st' := [.int x6]) dX7_endPerson_73 (fun _ => rfl) ?_
      refine r_goto (t := 80) dX7_endPerson_75 (by decide) ?_
      exact h
theorem b109_80 {g : Nat → Nat} {C S : Nat} {σ : PS} {Q : Rs → PS → Prop} {r0 : Nat} {x1 : Int32} {l2 : Option Value} {l3 : Option Value} {x4 : Int32} {x5 : Int32} {l6 : Option Value} {l7 : Option Value} {l8 : Option Value} {x9 : Int32} {u0 : Int32}
    (h : WP g C S 109 91 [some (.ref r0), some (.int x1), l2, l3, some (.int x4), some (.int x5), some (.int u0), some (.int (x9 + 1)), some (.int 1), some (.int x9)] [] σ Q) :
    WP g C S 109 80 [some (.ref r0), some (.int x1), l2, l3, some (.int x4), some (.int x5), l6, l7, l8, some (.int x9)] [.int u0] σ Q := by
  refine r_g (pc' := 82) (ls' := [some (.ref r0), some (.int x1), l2, l3, some (.int x4), some (.int x5), some (.int u0), l7, l8, some (.int x9)]) (st' := []) dX7_endPerson_80 (fun _ => rfl) ?_
  refine r_g (pc' := 84) (ls' := [some (.ref r0), some (.int x1), l2, l3, some (.int x4), some (.int x5), some (.int u0), l7, l8, some (.int x9)]) (st' := [.int x9]) dX7_endPerson_82 (fun _ => rfl) ?_
  refine r_ic (v := 1) dX7_endPerson_84 (by decide) ?_
  refine r_g (pc' := 86) (ls' := [some (.ref r0), some (.int x1), l2, l3, some (.int x4), some (.int x5), some (.int u0), l7, l8, some (.int x9)]) (st' := [.int (x9 + 1)]) dX7_endPerson_85 (fun _ => rfl) ?_
  refine r_g (pc' := 88) (ls' := [some (.ref r0), some (.int x1), l2, l3, some (.int x4), some (.int x5), some (.int u0), some (.int (x9 + 1)), l8, some (.int x9)]) (st' := []) dX7_endPerson_86 (fun _ => rfl) ?_
  refine r_ic (v := 1) dX7_endPerson_88 (by decide) ?_
  refine r_g (pc' := 91) (ls' := [some (.ref r0), some (.int x1), l2, l3, some (.int x4), some (.int x5), some (.int u0), some (.int (x9 + 1)), some (.int 1), some (.int x9)]) (st' := []) dX7_endPerson_89 (fun _ => rfl) ?_
  exact h
theorem b109_91 {g : Nat → Nat} {C S : Nat} {σ : PS} {Q : Rs → PS → Prop} {r0 : Nat} {x1 : Int32} {l2 : Option Value} {l3 : Option Value} {x4 : Int32} {x5 : Int32} {x6 : Int32} {x7 : Int32} {x8 : Int32} {x9 : Int32}
    (h : WP g C S 109 47 [some (.ref r0), some (.int x1), l2, l3, some (.int x4), some (.int x5), some (.int x6), some (.int x7), some (.int x8), some (.int (x9 + 1))] [] σ Q) :
    WP g C S 109 91 [some (.ref r0), some (.int x1), l2, l3, some (.int x4), some (.int x5), some (.int x6), some (.int x7), some (.int x8), some (.int x9)] [] σ Q := by
  refine r_inc (v := 1) (ls' := [some (.ref r0), some (.int x1), l2, l3, some (.int x4), some (.int x5), some (.int x6), some (.int x7), some (.int x8), some (.int (x9 + 1))]) dX7_endPerson_91 rfl (Nat.le_of_ble_eq_true rfl) (by decide) rfl ?_
  refine r_goto (t := 47) dX7_endPerson_94 (by decide) ?_
  exact h
theorem b109_100 {g : Nat → Nat} {C S : Nat} {σ : PS} {Q : Rs → PS → Prop} {r0 : Nat} {x1 : Int32} {l2 : Option Value} {l3 : Option Value} {x4 : Int32} {x5 : Int32} {x6 : Int32} {x7 : Int32} {l8 : Option Value} {x9 : Int32}
    (h : ((x4 : Int32) ≤ x9 → WP g C S 109 223 [some (.ref r0), some (.int x1), l2, l3, some (.int x4), some (.int x5), some (.int x6), some (.int x7), l8, some (.int x9)] [] σ Q) ∧ (¬ ((x4 : Int32) ≤ x9) → zK σ r0 = 9 ∧ ∃ b1, zP σ r0 18 = some b1 ∧ (((x6 : Int32) ≤ x9 → ((x7 : Int32) ≤ x9 → WP g C S 109 139 [some (.ref r0), some (.int x1), l2, l3, some (.int x4), some (.int x5), some (.int x6), some (.int x7), l8, some (.int x9)] [.int 2, .int (x5 + x9), .ref b1] σ Q) ∧ (¬ ((x7 : Int32) ≤ x9) → WP g C S 109 139 [some (.ref r0), some (.int x1), l2, l3, some (.int x4), some (.int x5), some (.int x6), some (.int x7), l8, some (.int x9)] [.int 1, .int (x5 + x9), .ref b1] σ Q)) ∧ (¬ ((x6 : Int32) ≤ x9) → WP g C S 109 139 [some (.ref r0), some (.int x1), l2, l3, some (.int x4), some (.int x5), some (.int x6), some (.int x7), l8, some (.int x9)] [.int 0, .int (x5 + x9), .ref b1] σ Q)))) :
    WP g C S 109 100 [some (.ref r0), some (.int x1), l2, l3, some (.int x4), some (.int x5), some (.int x6), some (.int x7), l8, some (.int x9)] [] σ Q := by
  refine r_g (pc' := 102) (ls' := [some (.ref r0), some (.int x1), l2, l3, some (.int x4), some (.int x5), some (.int x6), some (.int x7), l8, some (.int x9)]) (st' := [.int x9]) dX7_endPerson_100 (fun _ => rfl) ?_
  refine r_g (pc' := 104) (ls' := [some (.ref r0), some (.int x1), l2, l3, some (.int x4), some (.int x5), some (.int x6), some (.int x7), l8, some (.int x9)]) (st' := [.int x4, .int x9]) dX7_endPerson_102 (fun _ => rfl) ?_
  obtain ⟨h1, h2⟩ := h
  refine r_icmp (t := 146) dX7_endPerson_104 (by decide) c_ge (fun c => ?_) (fun c => ?_)
  · have h := h1 c
    refine r_goto (t := 223) dX7_endPerson_146 (by decide) ?_
    exact h
  · have h := h2 c
    refine r_g (pc' := 108) (ls' := [some (.ref r0), some (.int x1), l2, l3, some (.int x4), some (.int x5), some (.int x6), some (.int x7), l8, some (.int x9)]) (st' := [.ref r0]) dX7_endPerson_107 (fun _ => rfl) ?_
    obtain ⟨hK, b1, hP, h⟩ := h
    refine r_getP dX7_endPerson_108 rfl (by decide) rfl hK hP ?_
    refine r_g (pc' := 113) (ls' := [some (.ref r0), some (.int x1), l2, l3, some (.int x4), some (.int x5), some (.int x6), some (.int x7), l8, some (.int x9)]) (st' := [.int x5, .ref b1]) dX7_endPerson_111 (fun _ => rfl) ?_
    refine r_g (pc' := 115) (ls' := [some (.ref r0), some (.int x1), l2, l3, some (.int x4), some (.int x5), some (.int x6), some (.int x7), l8, some (.int x9)]) (st' := [.int x9, .int x5, .ref b1]) dX7_endPerson_113 (fun _ => rfl) ?_
    refine r_g (pc' := 116) (ls' := [some (.ref r0), some (.int x1), l2, l3, some (.int x4), some (.int x5), some (.int x6), some (.int x7), l8, some (.int x9)]) (st' := [.int (x5 + x9), .ref b1]) dX7_endPerson_115 (fun _ => rfl) ?_
    refine r_g (pc' := 118) (ls' := [some (.ref r0), some (.int x1), l2, l3, some (.int x4), some (.int x5), some (.int x6), some (.int x7), l8, some (.int x9)]) (st' := [.int x9, .int (x5 + x9), .ref b1]) dX7_endPerson_116 (fun _ => rfl) ?_
    refine r_g (pc' := 120) (ls' := [some (.ref r0), some (.int x1), l2, l3, some (.int x4), some (.int x5), some (.int x6), some (.int x7), l8, some (.int x9)]) (st' := [.int x6, .int x9, .int (x5 + x9), .ref b1]) dX7_endPerson_118 (fun _ => rfl) ?_
    obtain ⟨h1, h2⟩ := h
    refine r_icmp (t := 127) dX7_endPerson_120 (by decide) c_ge (fun c => ?_) (fun c => ?_)
    · have h := h1 c
      refine r_g (pc' := 129) (ls' := [some (.ref r0), some (.int x1), l2, l3, some (.int x4), some (.int x5), some (.int x6), some (.int x7), l8, some (.int x9)]) (st' := [.int x9, .int (x5 + x9), .ref b1]) dX7_endPerson_127 (fun _ => rfl) ?_
      refine r_g (pc' := 131) (ls' := [some (.ref r0), some (.int x1), l2, l3, some (.int x4), some (.int x5), some (.int x6), some (.int x7), l8, some (.int x9)]) (st' := [.int x7, .int x9, .int (x5 + x9), .ref b1]) dX7_endPerson_129 (fun _ => rfl) ?_
      obtain ⟨h1, h2⟩ := h
      refine r_icmp (t := 138) dX7_endPerson_131 (by decide) c_ge (fun c => ?_) (fun c => ?_)
      · have h := h1 c
        refine r_ic (v := 2) dX7_endPerson_138 (by decide) ?_
        exact h
      · have h := h2 c
        refine r_ic (v := 1) dX7_endPerson_134 (by decide) ?_
        refine r_goto (t := 139) dX7_endPerson_135 (by decide) ?_
        exact h
    · have h := h2 c
      refine r_ic (v := 0) dX7_endPerson_123 (by decide) ?_
      refine r_goto (t := 139) dX7_endPerson_124 (by decide) ?_
      exact h
theorem b109_139 {g : Nat → Nat} {C S : Nat} {σ : PS} {Q : Rs → PS → Prop} {r0 : Nat} {x1 : Int32} {l2 : Option Value} {l3 : Option Value} {x4 : Int32} {x5 : Int32} {x6 : Int32} {x7 : Int32} {l8 : Option Value} {x9 : Int32} {u0 : Int32} {u1 : Int32} {w2 : Nat}
    (h : ∃ n1 : Nat, u1 = nI n1 ∧ n1 < 2147483648 ∧ zK σ w2 = 101 ∧ n1 < zL σ w2 ∧ (∀ τ2, τ2 = stI σ w2 n1 u0 → WP g C S 109 100 [some (.ref r0), some (.int x1), l2, l3, some (.int x4), some (.int x5), some (.int x6), some (.int x7), (clr l8), some (.int (x9 + 1))] [] τ2 Q)) :
    WP g C S 109 139 [some (.ref r0), some (.int x1), l2, l3, some (.int x4), some (.int x5), some (.int x6), some (.int x7), l8, some (.int x9)] [.int u0, .int u1, .ref w2] σ Q := by
  obtain ⟨n1, hj, hn, hK, hL, h⟩ := h
  refine r_iast dX7_endPerson_139 hj hn hK hL ?_
  generalize eτ2 : stI σ w2 n1 u0 = τ2
  replace h := h _ eτ2.symm
  refine r_inc (v := 1) (ls' := [some (.ref r0), some (.int x1), l2, l3, some (.int x4), some (.int x5), some (.int x6), some (.int x7), (clr l8), some (.int (x9 + 1))]) dX7_endPerson_140 rfl (Nat.le_of_ble_eq_true rfl) (by decide) rfl ?_
  refine r_goto (t := 100) dX7_endPerson_143 (by decide) ?_
  exact h
theorem b109_152 {g : Nat → Nat} {C S : Nat} {σ : PS} {Q : Rs → PS → Prop} {r0 : Nat} {x1 : Int32} {l2 : Option Value} {x3 : Int32} {x4 : Int32} {x5 : Int32} {l6 : Option Value} {l7 : Option Value} {x8 : Int32} {l9 : Option Value}
    (h : ((x3 : Int32) ≤ (x8 + 1) → WP g C S 109 189 [some (.ref r0), some (.int x1), l2, some (.int x3), some (.int x4), some (.int x5), l6, l7, some (.int x8), l9] [] σ Q) ∧ (¬ ((x3 : Int32) ≤ (x8 + 1)) → zK σ r0 = 9 ∧ WP g C S 107 0 [some (.ref r0), some (.int (x5 + x8))] [] σ (KK g C S 109 169 [some (.ref r0), some (.int x1), l2, some (.int x3), some (.int x4), some (.int x5), l6, l7, some (.int x8), l9] [] Q false))) :
    WP g C S 109 152 [some (.ref r0), some (.int x1), l2, some (.int x3), some (.int x4), some (.int x5), l6, l7, some (.int x8), l9] [] σ Q := by
  refine r_g (pc' := 154) (ls' := [some (.ref r0), some (.int x1), l2, some (.int x3), some (.int x4), some (.int x5), l6, l7, some (.int x8), l9]) (st' := [.int x8]) dX7_endPerson_152 (fun _ => rfl) ?_
  refine r_ic (v := 1) dX7_endPerson_154 (by decide) ?_
  refine r_g (pc' := 156) (ls' := [some (.ref r0), some (.int x1), l2, some (.int x3), some (.int x4), some (.int x5), l6, l7, some (.int x8), l9]) (st' := [.int (x8 + 1)]) dX7_endPerson_155 (fun _ => rfl) ?_
  refine r_g (pc' := 157) (ls' := [some (.ref r0), some (.int x1), l2, some (.int x3), some (.int x4), some (.int x5), l6, l7, some (.int x8), l9]) (st' := [.int x3, .int (x8 + 1)]) dX7_endPerson_156 (fun _ => rfl) ?_
  obtain ⟨h1, h2⟩ := h
  refine r_icmp (t := 189) dX7_endPerson_157 (by decide) c_ge (fun c => ?_) (fun c => ?_)
  · have h := h1 c
    exact h
  · have h := h2 c
    refine r_g (pc' := 161) (ls' := [some (.ref r0), some (.int x1), l2, some (.int x3), some (.int x4), some (.int x5), l6, l7, some (.int x8), l9]) (st' := [.ref r0]) dX7_endPerson_160 (fun _ => rfl) ?_
    refine r_g (pc' := 163) (ls' := [some (.ref r0), some (.int x1), l2, some (.int x3), some (.int x4), some (.int x5), l6, l7, some (.int x8), l9]) (st' := [.int x5, .ref r0]) dX7_endPerson_161 (fun _ => rfl) ?_
    refine r_g (pc' := 165) (ls' := [some (.ref r0), some (.int x1), l2, some (.int x3), some (.int x4), some (.int x5), l6, l7, some (.int x8), l9]) (st' := [.int x8, .int x5, .ref r0]) dX7_endPerson_163 (fun _ => rfl) ?_
    refine r_g (pc' := 166) (ls' := [some (.ref r0), some (.int x1), l2, some (.int x3), some (.int x4), some (.int x5), l6, l7, some (.int x8), l9]) (st' := [.int (x5 + x8), .ref r0]) dX7_endPerson_165 (fun _ => rfl) ?_
    obtain ⟨hK, h⟩ := h
    exact r_call (th := false) dX7_endPerson_166 (fun _ => ex_calV rfl (by decide)) rfl (Nat.le_of_ble_eq_true rfl) (Nat.le_of_ble_eq_true rfl) (Nat.le_of_ble_eq_true rfl) (rcv0 rfl rfl (by decide) hK) rfl rfl rfl (fun q => nomatch q) h
theorem b109_169 {g : Nat → Nat} {C S : Nat} {σ : PS} {Q : Rs → PS → Prop} {r0 : Nat} {x1 : Int32} {l2 : Option Value} {x3 : Int32} {x4 : Int32} {x5 : Int32} {l6 : Option Value} {l7 : Option Value} {x8 : Int32} {l9 : Option Value} {u0 : Int32}
    (h : ((u0 : Int32) = 0 → WP g C S 109 189 [some (.ref r0), some (.int x1), l2, some (.int x3), some (.int x4), some (.int x5), l6, l7, some (.int x8), l9] [] σ Q) ∧ (¬ ((u0 : Int32) = 0) → zK σ r0 = 9 ∧ ∃ b1, zP σ r0 18 = some b1 ∧ (∃ n2 : Nat, x5 + x8 = nI n2 ∧ n2 < 2147483648 ∧ zK σ b1 = 101 ∧ n2 < zL σ b1 ∧ (∀ τ3, τ3 = stI σ b1 n2 1 → WP g C S 109 152 [some (.ref r0), some (.int x1), l2, some (.int x3), some (.int x4), some (.int x5), l6, (clr l7), some (.int (x8 + 1)), l9] [] τ3 Q)))) :
    WP g C S 109 169 [some (.ref r0), some (.int x1), l2, some (.int x3), some (.int x4), some (.int x5), l6, l7, some (.int x8), l9] [.int u0] σ Q := by
  obtain ⟨h1, h2⟩ := h
  refine r_if (t := 189) dX7_endPerson_169 (by decide) c_eq (fun c => ?_) (fun c => ?_)
  · have h := h1 c
    exact h
  · have h := h2 c
    refine r_g (pc' := 173) (ls' := [some (.ref r0), some (.int x1), l2, some (.int x3), some (.int x4), some (.int x5), l6, l7, some (.int x8), l9]) (st' := [.ref r0]) dX7_endPerson_172 (fun _ => rfl) ?_
    obtain ⟨hK, b1, hP, h⟩ := h
    refine r_getP dX7_endPerson_173 rfl (by decide) rfl hK hP ?_
    refine r_g (pc' := 178) (ls' := [some (.ref r0), some (.int x1), l2, some (.int x3), some (.int x4), some (.int x5), l6, l7, some (.int x8), l9]) (st' := [.int x5, .ref b1]) dX7_endPerson_176 (fun _ => rfl) ?_
    refine r_g (pc' := 180) (ls' := [some (.ref r0), some (.int x1), l2, some (.int x3), some (.int x4), some (.int x5), l6, l7, some (.int x8), l9]) (st' := [.int x8, .int x5, .ref b1]) dX7_endPerson_178 (fun _ => rfl) ?_
    refine r_g (pc' := 181) (ls' := [some (.ref r0), some (.int x1), l2, some (.int x3), some (.int x4), some (.int x5), l6, l7, some (.int x8), l9]) (st' := [.int (x5 + x8), .ref b1]) dX7_endPerson_180 (fun _ => rfl) ?_
    refine r_ic (v := 1) dX7_endPerson_181 (by decide) ?_
    obtain ⟨n2, hj, hn, hK, hL, h⟩ := h
    refine r_iast dX7_endPerson_182 hj hn hK hL ?_
    generalize eτ3 : stI σ b1 n2 1 = τ3
    replace h := h _ eτ3.symm
    refine r_inc (v := 1) (ls' := [some (.ref r0), some (.int x1), l2, some (.int x3), some (.int x4), some (.int x5), l6, (clr l7), some (.int (x8 + 1)), l9]) dX7_endPerson_183 rfl (Nat.le_of_ble_eq_true rfl) (by decide) rfl ?_
    refine r_goto (t := 152) dX7_endPerson_186 (by decide) ?_
    exact h
theorem b109_189 {g : Nat → Nat} {C S : Nat} {σ : PS} {Q : Rs → PS → Prop} {r0 : Nat} {x1 : Int32} {l2 : Option Value} {x3 : Int32} {x4 : Int32} {x5 : Int32} {l6 : Option Value} {l7 : Option Value} {x8 : Int32} {l9 : Option Value}
    (h : ((x4 : Int32) ≤ x8 → WP g C S 109 223 [some (.ref r0), some (.int x1), l2, some (.int x3), some (.int x4), some (.int x5), l6, l7, some (.int x8), l9] [] σ Q) ∧ (¬ ((x4 : Int32) ≤ x8) → zK σ r0 = 9 ∧ ∃ b1, zP σ r0 18 = some b1 ∧ (((x3 : Int32) ≤ x8 → WP g C S 109 216 [some (.ref r0), some (.int x1), l2, some (.int x3), some (.int x4), some (.int x5), l6, l7, some (.int x8), l9] [.int 0, .int (x5 + x8), .ref b1] σ Q) ∧ (¬ ((x3 : Int32) ≤ x8) → WP g C S 109 216 [some (.ref r0), some (.int x1), l2, some (.int x3), some (.int x4), some (.int x5), l6, l7, some (.int x8), l9] [.int 2, .int (x5 + x8), .ref b1] σ Q)))) :
    WP g C S 109 189 [some (.ref r0), some (.int x1), l2, some (.int x3), some (.int x4), some (.int x5), l6, l7, some (.int x8), l9] [] σ Q := by
  refine r_g (pc' := 191) (ls' := [some (.ref r0), some (.int x1), l2, some (.int x3), some (.int x4), some (.int x5), l6, l7, some (.int x8), l9]) (st' := [.int x8]) dX7_endPerson_189 (fun _ => rfl) ?_
  refine r_g (pc' := 193) (ls' := [some (.ref r0), some (.int x1), l2, some (.int x3), some (.int x4), some (.int x5), l6, l7, some (.int x8), l9]) (st' := [.int x4, .int x8]) dX7_endPerson_191 (fun _ => rfl) ?_
  obtain ⟨h1, h2⟩ := h
  refine r_icmp (t := 223) dX7_endPerson_193 (by decide) c_ge (fun c => ?_) (fun c => ?_)
  · have h := h1 c
    exact h
  · have h := h2 c
    refine r_g (pc' := 197) (ls' := [some (.ref r0), some (.int x1), l2, some (.int x3), some (.int x4), some (.int x5), l6, l7, some (.int x8), l9]) (st' := [.ref r0]) dX7_endPerson_196 (fun _ => rfl) ?_
    obtain ⟨hK, b1, hP, h⟩ := h
    refine r_getP dX7_endPerson_197 rfl (by decide) rfl hK hP ?_
    refine r_g (pc' := 202) (ls' := [some (.ref r0), some (.int x1), l2, some (.int x3), some (.int x4), some (.int x5), l6, l7, some (.int x8), l9]) (st' := [.int x5, .ref b1]) dX7_endPerson_200 (fun _ => rfl) ?_
    refine r_g (pc' := 204) (ls' := [some (.ref r0), some (.int x1), l2, some (.int x3), some (.int x4), some (.int x5), l6, l7, some (.int x8), l9]) (st' := [.int x8, .int x5, .ref b1]) dX7_endPerson_202 (fun _ => rfl) ?_
    refine r_g (pc' := 205) (ls' := [some (.ref r0), some (.int x1), l2, some (.int x3), some (.int x4), some (.int x5), l6, l7, some (.int x8), l9]) (st' := [.int (x5 + x8), .ref b1]) dX7_endPerson_204 (fun _ => rfl) ?_
    refine r_g (pc' := 207) (ls' := [some (.ref r0), some (.int x1), l2, some (.int x3), some (.int x4), some (.int x5), l6, l7, some (.int x8), l9]) (st' := [.int x8, .int (x5 + x8), .ref b1]) dX7_endPerson_205 (fun _ => rfl) ?_
    refine r_g (pc' := 208) (ls' := [some (.ref r0), some (.int x1), l2, some (.int x3), some (.int x4), some (.int x5), l6, l7, some (.int x8), l9]) (st' := [.int x3, .int x8, .int (x5 + x8), .ref b1]) dX7_endPerson_207 (fun _ => rfl) ?_
    obtain ⟨h1, h2⟩ := h
    refine r_icmp (t := 215) dX7_endPerson_208 (by decide) c_ge (fun c => ?_) (fun c => ?_)
    · have h := h1 c
      refine r_ic (v := 0) dX7_endPerson_215 (by decide) ?_
      exact h
    · have h := h2 c
      refine r_ic (v := 2) dX7_endPerson_211 (by decide) ?_
      refine r_goto (t := 216) dX7_endPerson_212 (by decide) ?_
      exact h
theorem b109_216 {g : Nat → Nat} {C S : Nat} {σ : PS} {Q : Rs → PS → Prop} {r0 : Nat} {x1 : Int32} {l2 : Option Value} {x3 : Int32} {x4 : Int32} {x5 : Int32} {l6 : Option Value} {l7 : Option Value} {x8 : Int32} {l9 : Option Value} {u0 : Int32} {u1 : Int32} {w2 : Nat}
    (h : ∃ n1 : Nat, u1 = nI n1 ∧ n1 < 2147483648 ∧ zK σ w2 = 101 ∧ n1 < zL σ w2 ∧ (∀ τ2, τ2 = stI σ w2 n1 u0 → WP g C S 109 189 [some (.ref r0), some (.int x1), l2, some (.int x3), some (.int x4), some (.int x5), l6, (clr l7), some (.int (x8 + 1)), l9] [] τ2 Q)) :
    WP g C S 109 216 [some (.ref r0), some (.int x1), l2, some (.int x3), some (.int x4), some (.int x5), l6, l7, some (.int x8), l9] [.int u0, .int u1, .ref w2] σ Q := by
  obtain ⟨n1, hj, hn, hK, hL, h⟩ := h
  refine r_iast dX7_endPerson_216 hj hn hK hL ?_
  generalize eτ2 : stI σ w2 n1 u0 = τ2
  replace h := h _ eτ2.symm
  refine r_inc (v := 1) (ls' := [some (.ref r0), some (.int x1), l2, some (.int x3), some (.int x4), some (.int x5), l6, (clr l7), some (.int (x8 + 1)), l9]) dX7_endPerson_217 rfl (Nat.le_of_ble_eq_true rfl) (by decide) rfl ?_
  refine r_goto (t := 189) dX7_endPerson_220 (by decide) ?_
  exact h
theorem b109_223 {g : Nat → Nat} {C S : Nat} {σ : PS} {Q : Rs → PS → Prop} {r0 : Nat} {x1 : Int32} {l2 : Option Value} {l3 : Option Value} {l4 : Option Value} {l5 : Option Value} {l6 : Option Value} {l7 : Option Value} {l8 : Option Value} {l9 : Option Value}
    (h : zK σ r0 = 9 ∧ ∃ b1, zP σ r0 19 = some b1 ∧ (∃ n2 : Nat, x1 = nI n2 ∧ n2 < 2147483648 ∧ (zK σ b1 = 101 ∨ zK σ b1 = 1002) ∧ n2 < zL σ b1 ∧ (∃ n3 : Nat, x1 = nI n3 ∧ n3 < 2147483648 ∧ zK σ b1 = 101 ∧ n3 < zL σ b1 ∧ (∀ τ4, τ4 = stI σ b1 n3 ((zI σ b1 n2) + 1) → Q (Sum.inl none) τ4)))) :
    WP g C S 109 223 [some (.ref r0), some (.int x1), l2, l3, l4, l5, l6, l7, l8, l9] [] σ Q := by
  refine r_g (pc' := 224) (ls' := [some (.ref r0), some (.int x1), l2, l3, l4, l5, l6, l7, l8, l9]) (st' := [.ref r0]) dX7_endPerson_223 (fun _ => rfl) ?_
  obtain ⟨hK, b1, hP, h⟩ := h
  refine r_getP dX7_endPerson_224 rfl (by decide) rfl hK hP ?_
  refine r_g (pc' := 228) (ls' := [some (.ref r0), some (.int x1), l2, l3, l4, l5, l6, l7, l8, l9]) (st' := [.int x1, .ref b1]) dX7_endPerson_227 (fun _ => rfl) ?_
  refine r_g (pc' := 229) (ls' := [some (.ref r0), some (.int x1), l2, l3, l4, l5, l6, l7, l8, l9]) (st' := [.int x1, .ref b1, .int x1, .ref b1]) dX7_endPerson_228 (fun _ => rfl) ?_
  obtain ⟨n2, hj, hn, hK, hL, h⟩ := h
  refine r_iald dX7_endPerson_229 hj hn hK hL ?_
  refine r_ic (v := 1) dX7_endPerson_230 (by decide) ?_
  refine r_g (pc' := 232) (ls' := [some (.ref r0), some (.int x1), l2, l3, l4, l5, l6, l7, l8, l9]) (st' := [.int ((zI σ b1 n2) + 1), .int x1, .ref b1]) dX7_endPerson_231 (fun _ => rfl) ?_
  obtain ⟨n3, hj, hn, hK, hL, h⟩ := h
  refine r_iast dX7_endPerson_232 hj hn hK hL ?_
  generalize eτ4 : stI σ b1 n3 ((zI σ b1 n2) + 1) = τ4
  replace h := h _ eτ4.symm
  exact r_vret dX7_endPerson_233 rfl h
theorem b110_0 {g : Nat → Nat} {C S : Nat} {σ : PS} {Q : Rs → PS → Prop} {r0 : Nat} {x1 : Int32} {x2 : Int32} {l3 : Option Value} {l4 : Option Value} {l5 : Option Value} {l6 : Option Value} {l7 : Option Value} {l8 : Option Value} {l9 : Option Value} {l10 : Option Value} {l11 : Option Value} {l12 : Option Value} {l13 : Option Value}
    (h : zK σ r0 = 9 ∧ ∃ b1, zP σ r0 14 = some b1 ∧ (∃ n2 : Nat, x1 = nI n2 ∧ n2 < 2147483648 ∧ zK σ b1 = 101 ∧ n2 < zL σ b1 ∧ (∀ τ3, τ3 = stI σ b1 n2 0 → zK τ3 r0 = 9 ∧ ∃ b4, zP τ3 r0 19 = some b4 ∧ (∃ n5 : Nat, x1 = nI n5 ∧ n5 < 2147483648 ∧ zK τ3 b4 = 101 ∧ n5 < zL τ3 b4 ∧ (∀ τ6, τ6 = stI τ3 b4 n5 0 → zK τ6 r0 = 9 ∧ WP g C S 103 0 [some (.ref r0), some (.int x2), some (.int 0), none] [] τ6 (KK g C S 110 20 [some (.ref r0), some (.int x1), some (.int x2), l3, l4, l5, l6, l7, l8, l9, l10, l11, l12, l13] [] Q false)))))) :
    WP g C S 110 0 [some (.ref r0), some (.int x1), some (.int x2), l3, l4, l5, l6, l7, l8, l9, l10, l11, l12, l13] [] σ Q := by
  refine r_g (pc' := 1) (ls' := [some (.ref r0), some (.int x1), some (.int x2), l3, l4, l5, l6, l7, l8, l9, l10, l11, l12, l13]) (st' := [.ref r0]) dX7_read_0 (fun _ => rfl) ?_
  obtain ⟨hK, b1, hP, h⟩ := h
  refine r_getP dX7_read_1 rfl (by decide) rfl hK hP ?_
  refine r_g (pc' := 5) (ls' := [some (.ref r0), some (.int x1), some (.int x2), l3, l4, l5, l6, l7, l8, l9, l10, l11, l12, l13]) (st' := [.int x1, .ref b1]) dX7_read_4 (fun _ => rfl) ?_
  refine r_ic (v := 0) dX7_read_5 (by decide) ?_
  obtain ⟨n2, hj, hn, hK, hL, h⟩ := h
  refine r_iast dX7_read_6 hj hn hK hL ?_
  generalize eτ3 : stI σ b1 n2 0 = τ3
  replace h := h _ eτ3.symm
  refine r_g (pc' := 8) (ls' := [some (.ref r0), some (.int x1), some (.int x2), l3, l4, l5, l6, l7, l8, l9, l10, l11, l12, l13]) (st' := [.ref r0]) dX7_read_7 (fun _ => rfl) ?_
  obtain ⟨hK, b4, hP, h⟩ := h
  refine r_getP dX7_read_8 rfl (by decide) rfl hK hP ?_
  refine r_g (pc' := 12) (ls' := [some (.ref r0), some (.int x1), some (.int x2), l3, l4, l5, l6, l7, l8, l9, l10, l11, l12, l13]) (st' := [.int x1, .ref b4]) dX7_read_11 (fun _ => rfl) ?_
  refine r_ic (v := 0) dX7_read_12 (by decide) ?_
  obtain ⟨n5, hj, hn, hK, hL, h⟩ := h
  refine r_iast dX7_read_13 hj hn hK hL ?_
  generalize eτ6 : stI τ3 b4 n5 0 = τ6
  replace h := h _ eτ6.symm
  refine r_g (pc' := 15) (ls' := [some (.ref r0), some (.int x1), some (.int x2), l3, l4, l5, l6, l7, l8, l9, l10, l11, l12, l13]) (st' := [.ref r0]) dX7_read_14 (fun _ => rfl) ?_
  refine r_g (pc' := 16) (ls' := [some (.ref r0), some (.int x1), some (.int x2), l3, l4, l5, l6, l7, l8, l9, l10, l11, l12, l13]) (st' := [.int x2, .ref r0]) dX7_read_15 (fun _ => rfl) ?_
  refine r_ic (v := 0) dX7_read_16 (by decide) ?_
  obtain ⟨hK, h⟩ := h
  exact r_call (th := false) dX7_read_17 (fun _ => ex_calV rfl (by decide)) rfl (Nat.le_of_ble_eq_true rfl) (Nat.le_of_ble_eq_true rfl) (Nat.le_of_ble_eq_true rfl) (rcv0 rfl rfl (by decide) hK) rfl rfl rfl (fun q => nomatch q) h
theorem b110_20 {g : Nat → Nat} {C S : Nat} {σ : PS} {Q : Rs → PS → Prop} {r0 : Nat} {x1 : Int32} {l2 : Option Value} {l3 : Option Value} {l4 : Option Value} {l5 : Option Value} {l6 : Option Value} {l7 : Option Value} {l8 : Option Value} {l9 : Option Value} {l10 : Option Value} {l11 : Option Value} {l12 : Option Value} {l13 : Option Value} {u0 : Int32}
    (h : (¬ (u0 : Int32) = (-1) → zK σ r0 = 9 ∧ ∃ b1, zP σ r0 5 = some b1 ∧ (∃ n2 : Nat, u0 = nI n2 ∧ n2 < 2147483648 ∧ (zK σ b1 = 101 ∨ zK σ b1 = 1002) ∧ n2 < zL σ b1 ∧ (WP g C S 110 36 [some (.ref r0), some (.int x1), (clr l2), some (.int u0), l4, l5, l6, l7, l8, l9, l10, l11, l12, l13] [.int (zI σ b1 n2)] σ Q))) ∧ (¬ (¬ (u0 : Int32) = (-1)) → WP g C S 110 36 [some (.ref r0), some (.int x1), (clr l2), some (.int u0), l4, l5, l6, l7, l8, l9, l10, l11, l12, l13] [.int 0] σ Q)) :
    WP g C S 110 20 [some (.ref r0), some (.int x1), l2, l3, l4, l5, l6, l7, l8, l9, l10, l11, l12, l13] [.int u0] σ Q := by
  refine r_g (pc' := 21) (ls' := [some (.ref r0), some (.int x1), (clr l2), some (.int u0), l4, l5, l6, l7, l8, l9, l10, l11, l12, l13]) (st' := []) dX7_read_20 (fun _ => rfl) ?_
  refine r_g (pc' := 22) (ls' := [some (.ref r0), some (.int x1), (clr l2), some (.int u0), l4, l5, l6, l7, l8, l9, l10, l11, l12, l13]) (st' := [.int u0]) dX7_read_21 (fun _ => rfl) ?_
  refine r_ic (v := -1) dX7_read_22 (by decide) ?_
  obtain ⟨h1, h2⟩ := h
  refine r_icmp (t := 30) dX7_read_23 (by decide) c_ne (fun c => ?_) (fun c => ?_)
  · have h := h1 c
    refine r_g (pc' := 31) (ls' := [some (.ref r0), some (.int x1), (clr l2), some (.int u0), l4, l5, l6, l7, l8, l9, l10, l11, l12, l13]) (st' := [.ref r0]) dX7_read_30 (fun _ => rfl) ?_
    obtain ⟨hK, b1, hP, h⟩ := h
    refine r_getP dX7_read_31 rfl (by decide) rfl hK hP ?_
    refine r_g (pc' := 35) (ls' := [some (.ref r0), some (.int x1), (clr l2), some (.int u0), l4, l5, l6, l7, l8, l9, l10, l11, l12, l13]) (st' := [.int u0, .ref b1]) dX7_read_34 (fun _ => rfl) ?_
    obtain ⟨n2, hj, hn, hK, hL, h⟩ := h
    refine r_iald dX7_read_35 hj hn hK hL ?_
    exact h
  · have h := h2 c
    refine r_ic (v := 0) dX7_read_26 (by decide) ?_
    refine r_goto (t := 36) dX7_read_27 (by decide) ?_
    exact h
theorem b110_36 {g : Nat → Nat} {C S : Nat} {σ : PS} {Q : Rs → PS → Prop} {r0 : Nat} {x1 : Int32} {l2 : Option Value} {x3 : Int32} {l4 : Option Value} {l5 : Option Value} {l6 : Option Value} {l7 : Option Value} {l8 : Option Value} {l9 : Option Value} {l10 : Option Value} {l11 : Option Value} {l12 : Option Value} {l13 : Option Value} {u0 : Int32}
    (h : WP g C S 110 47 [some (.ref r0), some (.int x1), l2, some (.int x3), some (.int u0), some (.int (80 * x1)), some (.int 0), l7, l8, l9, l10, l11, l12, l13] [] σ Q) :
    WP g C S 110 36 [some (.ref r0), some (.int x1), l2, some (.int x3), l4, l5, l6, l7, l8, l9, l10, l11, l12, l13] [.int u0] σ Q := by
  refine r_g (pc' := 38) (ls' := [some (.ref r0), some (.int x1), l2, some (.int x3), some (.int u0), l5, l6, l7, l8, l9, l10, l11, l12, l13]) (st' := []) dX7_read_36 (fun _ => rfl) ?_
  refine r_bi (v := 80) dX7_read_38 (by decide) ?_
  refine r_g (pc' := 41) (ls' := [some (.ref r0), some (.int x1), l2, some (.int x3), some (.int u0), l5, l6, l7, l8, l9, l10, l11, l12, l13]) (st' := [.int x1, .int 80]) dX7_read_40 (fun _ => rfl) ?_
  refine r_g (pc' := 42) (ls' := [some (.ref r0), some (.int x1), l2, some (.int x3), some (.int u0), l5, l6, l7, l8, l9, l10, l11, l12, l13]) (st' := [.int (80 * x1)]) dX7_read_41 (fun _ => rfl) ?_
  refine r_g (pc' := 44) (ls' := [some (.ref r0), some (.int x1), l2, some (.int x3), some (.int u0), some (.int (80 * x1)), l6, l7, l8, l9, l10, l11, l12, l13]) (st' := []) dX7_read_42 (fun _ => rfl) ?_
  refine r_ic (v := 0) dX7_read_44 (by decide) ?_
  refine r_g (pc' := 47) (ls' := [some (.ref r0), some (.int x1), l2, some (.int x3), some (.int u0), some (.int (80 * x1)), some (.int 0), l7, l8, l9, l10, l11, l12, l13]) (st' := []) dX7_read_45 (fun _ => rfl) ?_
  exact h
theorem b110_47 {g : Nat → Nat} {C S : Nat} {σ : PS} {Q : Rs → PS → Prop} {r0 : Nat} {x1 : Int32} {l2 : Option Value} {x3 : Int32} {x4 : Int32} {x5 : Int32} {x6 : Int32} {l7 : Option Value} {l8 : Option Value} {l9 : Option Value} {l10 : Option Value} {l11 : Option Value} {l12 : Option Value} {l13 : Option Value}
    (h : ((x4 : Int32) ≤ x6 → WP g C S 110 91 [some (.ref r0), some (.int x1), l2, some (.int x3), some (.int x4), some (.int x5), some (.int 0), some (.int (-1)), some (.int 0), l9, l10, l11, l12, l13] [] σ Q) ∧ (¬ ((x4 : Int32) ≤ x6) → zK σ r0 = 9 ∧ ∃ b1, zP σ r0 13 = some b1 ∧ (zK σ r0 = 9 ∧ ∃ b2, zP σ r0 6 = some b2 ∧ (∃ n3 : Nat, (80 * x3) + x6 = nI n3 ∧ n3 < 2147483648 ∧ (zK σ b2 = 101 ∨ zK σ b2 = 1002) ∧ n3 < zL σ b2 ∧ (∃ n4 : Nat, x5 + x6 = nI n4 ∧ n4 < 2147483648 ∧ zK σ b1 = 101 ∧ n4 < zL σ b1 ∧ (∀ τ5, τ5 = stI σ b1 n4 (zI σ b2 n3) → WP g C S 110 47 [some (.ref r0), some (.int x1), l2, some (.int x3), some (.int x4), some (.int x5), some (.int (x6 + 1)), l7, l8, l9, l10, l11, l12, l13] [] τ5 Q)))))) :
    WP g C S 110 47 [some (.ref r0), some (.int x1), l2, some (.int x3), some (.int x4), some (.int x5), some (.int x6), l7, l8, l9, l10, l11, l12, l13] [] σ Q := by
  refine r_g (pc' := 49) (ls' := [some (.ref r0), some (.int x1), l2, some (.int x3), some (.int x4), some (.int x5), some (.int x6), l7, l8, l9, l10, l11, l12, l13]) (st' := [.int x6]) dX7_read_47 (fun _ => rfl) ?_
  refine r_g (pc' := 51) (ls' := [some (.ref r0), some (.int x1), l2, some (.int x3), some (.int x4), some (.int x5), some (.int x6), l7, l8, l9, l10, l11, l12, l13]) (st' := [.int x4, .int x6]) dX7_read_49 (fun _ => rfl) ?_
  obtain ⟨h1, h2⟩ := h
  refine r_icmp (t := 82) dX7_read_51 (by decide) c_ge (fun c => ?_) (fun c => ?_)
  · have h := h1 c
    refine r_ic (v := 0) dX7_read_82 (by decide) ?_
    refine r_g (pc' := 85) (ls' := [some (.ref r0), some (.int x1), l2, some (.int x3), some (.int x4), some (.int x5), some (.int 0), l7, l8, l9, l10, l11, l12, l13]) (st' := []) dX7_read_83 (fun _ => rfl) ?_
    refine r_ic (v := -1) dX7_read_85 (by decide) ?_
    refine r_g (pc' := 88) (ls' := [some (.ref r0), some (.int x1), l2, some (.int x3), some (.int x4), some (.int x5), some (.int 0), some (.int (-1)), l8, l9, l10, l11, l12, l13]) (st' := []) dX7_read_86 (fun _ => rfl) ?_
    refine r_ic (v := 0) dX7_read_88 (by decide) ?_
    refine r_g (pc' := 91) (ls' := [some (.ref r0), some (.int x1), l2, some (.int x3), some (.int x4), some (.int x5), some (.int 0), some (.int (-1)), some (.int 0), l9, l10, l11, l12, l13]) (st' := []) dX7_read_89 (fun _ => rfl) ?_
    exact h
  · have h := h2 c
    refine r_g (pc' := 55) (ls' := [some (.ref r0), some (.int x1), l2, some (.int x3), some (.int x4), some (.int x5), some (.int x6), l7, l8, l9, l10, l11, l12, l13]) (st' := [.ref r0]) dX7_read_54 (fun _ => rfl) ?_
    obtain ⟨hK, b1, hP, h⟩ := h
    refine r_getP dX7_read_55 rfl (by decide) rfl hK hP ?_
    refine r_g (pc' := 60) (ls' := [some (.ref r0), some (.int x1), l2, some (.int x3), some (.int x4), some (.int x5), some (.int x6), l7, l8, l9, l10, l11, l12, l13]) (st' := [.int x5, .ref b1]) dX7_read_58 (fun _ => rfl) ?_
    refine r_g (pc' := 62) (ls' := [some (.ref r0), some (.int x1), l2, some (.int x3), some (.int x4), some (.int x5), some (.int x6), l7, l8, l9, l10, l11, l12, l13]) (st' := [.int x6, .int x5, .ref b1]) dX7_read_60 (fun _ => rfl) ?_
    refine r_g (pc' := 63) (ls' := [some (.ref r0), some (.int x1), l2, some (.int x3), some (.int x4), some (.int x5), some (.int x6), l7, l8, l9, l10, l11, l12, l13]) (st' := [.int (x5 + x6), .ref b1]) dX7_read_62 (fun _ => rfl) ?_
    refine r_g (pc' := 64) (ls' := [some (.ref r0), some (.int x1), l2, some (.int x3), some (.int x4), some (.int x5), some (.int x6), l7, l8, l9, l10, l11, l12, l13]) (st' := [.ref r0, .int (x5 + x6), .ref b1]) dX7_read_63 (fun _ => rfl) ?_
    obtain ⟨hK, b2, hP, h⟩ := h
    refine r_getP dX7_read_64 rfl (by decide) rfl hK hP ?_
    refine r_bi (v := 80) dX7_read_67 (by decide) ?_
    refine r_g (pc' := 70) (ls' := [some (.ref r0), some (.int x1), l2, some (.int x3), some (.int x4), some (.int x5), some (.int x6), l7, l8, l9, l10, l11, l12, l13]) (st' := [.int x3, .int 80, .ref b2, .int (x5 + x6), .ref b1]) dX7_read_69 (fun _ => rfl) ?_
    refine r_g (pc' := 71) (ls' := [some (.ref r0), some (.int x1), l2, some (.int x3), some (.int x4), some (.int x5), some (.int x6), l7, l8, l9, l10, l11, l12, l13]) (st' := [.int (80 * x3), .ref b2, .int (x5 + x6), .ref b1]) dX7_read_70 (fun _ => rfl) ?_
    refine r_g (pc' := 73) (ls' := [some (.ref r0), some (.int x1), l2, some (.int x3), some (.int x4), some (.int x5), some (.int x6), l7, l8, l9, l10, l11, l12, l13]) (st' := [.int x6, .int (80 * x3), .ref b2, .int (x5 + x6), .ref b1]) dX7_read_71 (fun _ => rfl) ?_
    refine r_g (pc' := 74) (ls' := [some (.ref r0), some (.int x1), l2, some (.int x3), some (.int x4), some (.int x5), some (.int x6), l7, l8, l9, l10, l11, l12, l13]) (st' := [.int ((80 * x3) + x6), .ref b2, .int (x5 + x6), .ref b1]) dX7_read_73 (fun _ => rfl) ?_
    obtain ⟨n3, hj, hn, hK, hL, h⟩ := h
    refine r_iald dX7_read_74 hj hn hK hL ?_
    obtain ⟨n4, hj, hn, hK, hL, h⟩ := h
    refine r_iast dX7_read_75 hj hn hK hL ?_
    generalize eτ5 : stI σ b1 n4 (zI σ b2 n3) = τ5
    replace h := h _ eτ5.symm
    refine r_inc (v := 1) (ls' := [some (.ref r0), some (.int x1), l2, some (.int x3), some (.int x4), some (.int x5), some (.int (x6 + 1)), l7, l8, l9, l10, l11, l12, l13]) dX7_read_76 rfl (Nat.le_of_ble_eq_true rfl) (by decide) rfl ?_
    refine r_goto (t := 47) dX7_read_79 (by decide) ?_
    exact h
theorem b110_91 {g : Nat → Nat} {C S : Nat} {σ : PS} {Q : Rs → PS → Prop} {r0 : Nat} {x1 : Int32} {l2 : Option Value} {l3 : Option Value} {x4 : Int32} {x5 : Int32} {x6 : Int32} {x7 : Int32} {x8 : Int32} {l9 : Option Value} {l10 : Option Value} {l11 : Option Value} {l12 : Option Value} {l13 : Option Value}
    (h : ((x4 : Int32) ≤ x8 → zK σ r0 = 9 ∧ WP g C S 109 0 [some (.ref r0), some (.int x1), some (.int x6), some (.int x7), none, none, none, none, none, none] [] σ (KK g C S 110 372 [some (.ref r0), some (.int x1), l2, l3, some (.int x4), some (.int x5), some (.int x6), some (.int x7), some (.int x8), l9, l10, l11, l12, l13] [] Q false)) ∧ (¬ ((x4 : Int32) ≤ x8) → zK σ r0 = 9 ∧ ∃ b1, zP σ r0 13 = some b1 ∧ (∃ n2 : Nat, x5 + x8 = nI n2 ∧ n2 < 2147483648 ∧ (zK σ b1 = 101 ∨ zK σ b1 = 1002) ∧ n2 < zL σ b1 ∧ ((¬ (zI σ b1 n2 : Int32) = 32 → WP g C S 110 123 [some (.ref r0), some (.int x1), l2, l3, some (.int x4), some (.int x5), some (.int x6), some (.int x7), some (.int x8), some (.int x8), l10, l11, l12, l13] [] σ Q) ∧ (¬ (¬ (zI σ b1 n2 : Int32) = 32) → WP g C S 110 91 [some (.ref r0), some (.int x1), l2, l3, some (.int x4), some (.int x5), some (.int x6), some (.int x7), some (.int (x8 + 1)), l9, l10, l11, l12, l13] [] σ Q))))) :
    WP g C S 110 91 [some (.ref r0), some (.int x1), l2, l3, some (.int x4), some (.int x5), some (.int x6), some (.int x7), some (.int x8), l9, l10, l11, l12, l13] [] σ Q := by
  refine r_g (pc' := 93) (ls' := [some (.ref r0), some (.int x1), l2, l3, some (.int x4), some (.int x5), some (.int x6), some (.int x7), some (.int x8), l9, l10, l11, l12, l13]) (st' := [.int x8]) dX7_read_91 (fun _ => rfl) ?_
  refine r_g (pc' := 95) (ls' := [some (.ref r0), some (.int x1), l2, l3, some (.int x4), some (.int x5), some (.int x6), some (.int x7), some (.int x8), l9, l10, l11, l12, l13]) (st' := [.int x4, .int x8]) dX7_read_93 (fun _ => rfl) ?_
  obtain ⟨h1, h2⟩ := h
  refine r_icmp (t := 363) dX7_read_95 (by decide) c_ge (fun c => ?_) (fun c => ?_)
  · have h := h1 c
    refine r_g (pc' := 364) (ls' := [some (.ref r0), some (.int x1), l2, l3, some (.int x4), some (.int x5), some (.int x6), some (.int x7), some (.int x8), l9, l10, l11, l12, l13]) (st' := [.ref r0]) dX7_read_363 (fun _ => rfl) ?_
    refine r_g (pc' := 365) (ls' := [some (.ref r0), some (.int x1), l2, l3, some (.int x4), some (.int x5), some (.int x6), some (.int x7), some (.int x8), l9, l10, l11, l12, l13]) (st' := [.int x1, .ref r0]) dX7_read_364 (fun _ => rfl) ?_
    refine r_g (pc' := 367) (ls' := [some (.ref r0), some (.int x1), l2, l3, some (.int x4), some (.int x5), some (.int x6), some (.int x7), some (.int x8), l9, l10, l11, l12, l13]) (st' := [.int x6, .int x1, .ref r0]) dX7_read_365 (fun _ => rfl) ?_
    refine r_g (pc' := 369) (ls' := [some (.ref r0), some (.int x1), l2, l3, some (.int x4), some (.int x5), some (.int x6), some (.int x7), some (.int x8), l9, l10, l11, l12, l13]) (st' := [.int x7, .int x6, .int x1, .ref r0]) dX7_read_367 (fun _ => rfl) ?_
    obtain ⟨hK, h⟩ := h
    exact r_call (th := false) dX7_read_369 (fun _ => ex_calV rfl (by decide)) rfl (Nat.le_of_ble_eq_true rfl) (Nat.le_of_ble_eq_true rfl) (Nat.le_of_ble_eq_true rfl) (rcv0 rfl rfl (by decide) hK) rfl rfl rfl (fun q => nomatch q) h
  · have h := h2 c
    refine r_g (pc' := 99) (ls' := [some (.ref r0), some (.int x1), l2, l3, some (.int x4), some (.int x5), some (.int x6), some (.int x7), some (.int x8), l9, l10, l11, l12, l13]) (st' := [.ref r0]) dX7_read_98 (fun _ => rfl) ?_
    obtain ⟨hK, b1, hP, h⟩ := h
    refine r_getP dX7_read_99 rfl (by decide) rfl hK hP ?_
    refine r_g (pc' := 104) (ls' := [some (.ref r0), some (.int x1), l2, l3, some (.int x4), some (.int x5), some (.int x6), some (.int x7), some (.int x8), l9, l10, l11, l12, l13]) (st' := [.int x5, .ref b1]) dX7_read_102 (fun _ => rfl) ?_
    refine r_g (pc' := 106) (ls' := [some (.ref r0), some (.int x1), l2, l3, some (.int x4), some (.int x5), some (.int x6), some (.int x7), some (.int x8), l9, l10, l11, l12, l13]) (st' := [.int x8, .int x5, .ref b1]) dX7_read_104 (fun _ => rfl) ?_
    refine r_g (pc' := 107) (ls' := [some (.ref r0), some (.int x1), l2, l3, some (.int x4), some (.int x5), some (.int x6), some (.int x7), some (.int x8), l9, l10, l11, l12, l13]) (st' := [.int (x5 + x8), .ref b1]) dX7_read_106 (fun _ => rfl) ?_
    obtain ⟨n2, hj, hn, hK, hL, h⟩ := h
    refine r_iald dX7_read_107 hj hn hK hL ?_
    refine r_bi (v := 32) dX7_read_108 (by decide) ?_
    obtain ⟨h1, h2⟩ := h
    refine r_icmp (t := 119) dX7_read_110 (by decide) c_ne (fun c => ?_) (fun c => ?_)
    · have h := h1 c
      refine r_g (pc' := 121) (ls' := [some (.ref r0), some (.int x1), l2, l3, some (.int x4), some (.int x5), some (.int x6), some (.int x7), some (.int x8), l9, l10, l11, l12, l13]) (st' := [.int x8]) dX7_read_119 (fun _ => rfl) ?_
      refine r_g (pc' := 123) (ls' := [some (.ref r0), some (.int x1), l2, l3, some (.int x4), some (.int x5), some (.int x6), some (.int x7), some (.int x8), some (.int x8), l10, l11, l12, l13]) (st' := []) dX7_read_121 (fun _ => rfl) ?_
      exact h
    · have h := h2 c
      refine r_inc (v := 1) (ls' := [some (.ref r0), some (.int x1), l2, l3, some (.int x4), some (.int x5), some (.int x6), some (.int x7), some (.int (x8 + 1)), l9, l10, l11, l12, l13]) dX7_read_113 rfl (Nat.le_of_ble_eq_true rfl) (by decide) rfl ?_
      refine r_goto (t := 91) dX7_read_116 (by decide) ?_
      exact h
theorem b110_123 {g : Nat → Nat} {C S : Nat} {σ : PS} {Q : Rs → PS → Prop} {r0 : Nat} {x1 : Int32} {l2 : Option Value} {l3 : Option Value} {x4 : Int32} {x5 : Int32} {x6 : Int32} {x7 : Int32} {x8 : Int32} {x9 : Int32} {l10 : Option Value} {l11 : Option Value} {l12 : Option Value} {l13 : Option Value}
    (h : ((x4 : Int32) ≤ x9 → WP g C S 110 151 [some (.ref r0), some (.int x1), l2, l3, some (.int x4), some (.int x5), some (.int x6), some (.int x7), some (.int x8), some (.int x9), l10, l11, l12, l13] [] σ Q) ∧ (¬ ((x4 : Int32) ≤ x9) → zK σ r0 = 9 ∧ ∃ b1, zP σ r0 13 = some b1 ∧ (∃ n2 : Nat, x5 + x9 = nI n2 ∧ n2 < 2147483648 ∧ (zK σ b1 = 101 ∨ zK σ b1 = 1002) ∧ n2 < zL σ b1 ∧ (((zI σ b1 n2 : Int32) = 32 → WP g C S 110 151 [some (.ref r0), some (.int x1), l2, l3, some (.int x4), some (.int x5), some (.int x6), some (.int x7), some (.int x8), some (.int x9), l10, l11, l12, l13] [] σ Q) ∧ (¬ ((zI σ b1 n2 : Int32) = 32) → WP g C S 110 123 [some (.ref r0), some (.int x1), l2, l3, some (.int x4), some (.int x5), some (.int x6), some (.int x7), some (.int x8), some (.int (x9 + 1)), l10, l11, l12, l13] [] σ Q))))) :
    WP g C S 110 123 [some (.ref r0), some (.int x1), l2, l3, some (.int x4), some (.int x5), some (.int x6), some (.int x7), some (.int x8), some (.int x9), l10, l11, l12, l13] [] σ Q := by
  refine r_g (pc' := 125) (ls' := [some (.ref r0), some (.int x1), l2, l3, some (.int x4), some (.int x5), some (.int x6), some (.int x7), some (.int x8), some (.int x9), l10, l11, l12, l13]) (st' := [.int x9]) dX7_read_123 (fun _ => rfl) ?_
  refine r_g (pc' := 127) (ls' := [some (.ref r0), some (.int x1), l2, l3, some (.int x4), some (.int x5), some (.int x6), some (.int x7), some (.int x8), some (.int x9), l10, l11, l12, l13]) (st' := [.int x4, .int x9]) dX7_read_125 (fun _ => rfl) ?_
  obtain ⟨h1, h2⟩ := h
  refine r_icmp (t := 151) dX7_read_127 (by decide) c_ge (fun c => ?_) (fun c => ?_)
  · have h := h1 c
    exact h
  · have h := h2 c
    refine r_g (pc' := 131) (ls' := [some (.ref r0), some (.int x1), l2, l3, some (.int x4), some (.int x5), some (.int x6), some (.int x7), some (.int x8), some (.int x9), l10, l11, l12, l13]) (st' := [.ref r0]) dX7_read_130 (fun _ => rfl) ?_
    obtain ⟨hK, b1, hP, h⟩ := h
    refine r_getP dX7_read_131 rfl (by decide) rfl hK hP ?_
    refine r_g (pc' := 136) (ls' := [some (.ref r0), some (.int x1), l2, l3, some (.int x4), some (.int x5), some (.int x6), some (.int x7), some (.int x8), some (.int x9), l10, l11, l12, l13]) (st' := [.int x5, .ref b1]) dX7_read_134 (fun _ => rfl) ?_
    refine r_g (pc' := 138) (ls' := [some (.ref r0), some (.int x1), l2, l3, some (.int x4), some (.int x5), some (.int x6), some (.int x7), some (.int x8), some (.int x9), l10, l11, l12, l13]) (st' := [.int x9, .int x5, .ref b1]) dX7_read_136 (fun _ => rfl) ?_
    refine r_g (pc' := 139) (ls' := [some (.ref r0), some (.int x1), l2, l3, some (.int x4), some (.int x5), some (.int x6), some (.int x7), some (.int x8), some (.int x9), l10, l11, l12, l13]) (st' := [.int (x5 + x9), .ref b1]) dX7_read_138 (fun _ => rfl) ?_
    obtain ⟨n2, hj, hn, hK, hL, h⟩ := h
    refine r_iald dX7_read_139 hj hn hK hL ?_
    refine r_bi (v := 32) dX7_read_140 (by decide) ?_
    obtain ⟨h1, h2⟩ := h
    refine r_icmp (t := 151) dX7_read_142 (by decide) c_eq (fun c => ?_) (fun c => ?_)
    · have h := h1 c
      exact h
    · have h := h2 c
      refine r_inc (v := 1) (ls' := [some (.ref r0), some (.int x1), l2, l3, some (.int x4), some (.int x5), some (.int x6), some (.int x7), some (.int x8), some (.int (x9 + 1)), l10, l11, l12, l13]) dX7_read_145 rfl (Nat.le_of_ble_eq_true rfl) (by decide) rfl ?_
      refine r_goto (t := 123) dX7_read_148 (by decide) ?_
      exact h
theorem b110_151 {g : Nat → Nat} {C S : Nat} {σ : PS} {Q : Rs → PS → Prop} {r0 : Nat} {x1 : Int32} {l2 : Option Value} {l3 : Option Value} {x4 : Int32} {x5 : Int32} {x6 : Int32} {x7 : Int32} {x8 : Int32} {x9 : Int32} {l10 : Option Value} {l11 : Option Value} {l12 : Option Value} {l13 : Option Value}
    (h : (¬ (x9 : Int32) = (x8 + 3) → WP g C S 110 213 [some (.ref r0), some (.int x1), l2, l3, some (.int x4), some (.int x5), some (.int x6), some (.int x7), some (.int x8), some (.int x9), l10, l11, l12, l13] [] σ Q) ∧ (¬ (¬ (x9 : Int32) = (x8 + 3)) → zK σ r0 = 9 ∧ ∃ b1, zP σ r0 13 = some b1 ∧ (∃ n2 : Nat, x5 + x8 = nI n2 ∧ n2 < 2147483648 ∧ (zK σ b1 = 101 ∨ zK σ b1 = 1002) ∧ n2 < zL σ b1 ∧ ((¬ (zI σ b1 n2 : Int32) = 97 → WP g C S 110 213 [some (.ref r0), some (.int x1), l2, l3, some (.int x4), some (.int x5), some (.int x6), some (.int x7), some (.int x8), some (.int x9), l10, l11, l12, l13] [] σ Q) ∧ (¬ (¬ (zI σ b1 n2 : Int32) = 97) → zK σ r0 = 9 ∧ ∃ b3, zP σ r0 13 = some b3 ∧ (∃ n4 : Nat, (x5 + x8) + 1 = nI n4 ∧ n4 < 2147483648 ∧ (zK σ b3 = 101 ∨ zK σ b3 = 1002) ∧ n4 < zL σ b3 ∧ ((¬ (zI σ b3 n4 : Int32) = 110 → WP g C S 110 213 [some (.ref r0), some (.int x1), l2, l3, some (.int x4), some (.int x5), some (.int x6), some (.int x7), some (.int x8), some (.int x9), l10, l11, l12, l13] [] σ Q) ∧ (¬ (¬ (zI σ b3 n4 : Int32) = 110) → zK σ r0 = 9 ∧ ∃ b5, zP σ r0 13 = some b5 ∧ (∃ n6 : Nat, (x5 + x8) + 2 = nI n6 ∧ n6 < 2147483648 ∧ (zK σ b5 = 101 ∨ zK σ b5 = 1002) ∧ n6 < zL σ b5 ∧ ((¬ (zI σ b5 n6 : Int32) = 100 → WP g C S 110 213 [some (.ref r0), some (.int x1), l2, l3, some (.int x4), some (.int x5), some (.int x6), some (.int x7), some (.int x8), some (.int x9), l10, l11, l12, l13] [] σ Q) ∧ (¬ (¬ (zI σ b5 n6 : Int32) = 100) → WP g C S 110 214 [some (.ref r0), some (.int x1), l2, l3, some (.int x4), some (.int x5), some (.int x6), some (.int x7), some (.int x8), some (.int x9), l10, l11, l12, l13] [.int 1] σ Q))))))))))) :
    WP g C S 110 151 [some (.ref r0), some (.int x1), l2, l3, some (.int x4), some (.int x5), some (.int x6), some (.int x7), some (.int x8), some (.int x9), l10, l11, l12, l13] [] σ Q := by
  refine r_g (pc' := 153) (ls' := [some (.ref r0), some (.int x1), l2, l3, some (.int x4), some (.int x5), some (.int x6), some (.int x7), some (.int x8), some (.int x9), l10, l11, l12, l13]) (st' := [.int x9]) dX7_read_151 (fun _ => rfl) ?_
  refine r_g (pc' := 155) (ls' := [some (.ref r0), some (.int x1), l2, l3, some (.int x4), some (.int x5), some (.int x6), some (.int x7), some (.int x8), some (.int x9), l10, l11, l12, l13]) (st' := [.int x8, .int x9]) dX7_read_153 (fun _ => rfl) ?_
  refine r_ic (v := 3) dX7_read_155 (by decide) ?_
  refine r_g (pc' := 157) (ls' := [some (.ref r0), some (.int x1), l2, l3, some (.int x4), some (.int x5), some (.int x6), some (.int x7), some (.int x8), some (.int x9), l10, l11, l12, l13]) (st' := [.int (x8 + 3), .int x9]) dX7_read_156 (fun _ => rfl) ?_
  obtain ⟨h1, h2⟩ := h
  refine r_icmp (t := 213) dX7_read_157 (by decide) c_ne (fun c => ?_) (fun c => ?_)
  · have h := h1 c
    exact h
  · have h := h2 c
    refine r_g (pc' := 161) (ls' := [some (.ref r0), some (.int x1), l2, l3, some (.int x4), some (.int x5), some (.int x6), some (.int x7), some (.int x8), some (.int x9), l10, l11, l12, l13]) (st' := [.ref r0]) dX7_read_160 (fun _ => rfl) ?_
    obtain ⟨hK, b1, hP, h⟩ := h
    refine r_getP dX7_read_161 rfl (by decide) rfl hK hP ?_
    refine r_g (pc' := 166) (ls' := [some (.ref r0), some (.int x1), l2, l3, some (.int x4), some (.int x5), some (.int x6), some (.int x7), some (.int x8), some (.int x9), l10, l11, l12, l13]) (st' := [.int x5, .ref b1]) dX7_read_164 (fun _ => rfl) ?_
    refine r_g (pc' := 168) (ls' := [some (.ref r0), some (.int x1), l2, l3, some (.int x4), some (.int x5), some (.int x6), some (.int x7), some (.int x8), some (.int x9), l10, l11, l12, l13]) (st' := [.int x8, .int x5, .ref b1]) dX7_read_166 (fun _ => rfl) ?_
    refine r_g (pc' := 169) (ls' := [some (.ref r0), some (.int x1), l2, l3, some (.int x4), some (.int x5), some (.int x6), some (.int x7), some (.int x8), some (.int x9), l10, l11, l12, l13]) (st' := [.int (x5 + x8), .ref b1]) dX7_read_168 (fun _ => rfl) ?_
    obtain ⟨n2, hj, hn, hK, hL, h⟩ := h
    refine r_iald dX7_read_169 hj hn hK hL ?_
    refine r_bi (v := 97) dX7_read_170 (by decide) ?_
    obtain ⟨h1, h2⟩ := h
    refine r_icmp (t := 213) dX7_read_172 (by decide) c_ne (fun c => ?_) (fun c => ?_)
    · have h := h1 c
      exact h
    · have h := h2 c
      refine r_g (pc' := 176) (ls' := [some (.ref r0), some (.int x1), l2, l3, some (.int x4), some (.int x5), some (.int x6), some (.int x7), some (.int x8), some (.int x9), l10, l11, l12, l13]) (st' := [.ref r0]) dX7_read_175 (fun _ => rfl) ?_
      obtain ⟨hK, b3, hP, h⟩ := h
      refine r_getP dX7_read_176 rfl (by decide) rfl hK hP ?_
      refine r_g (pc' := 181) (ls' := [some (.ref r0), some (.int x1), l2, l3, some (.int x4), some (.int x5), some (.int x6), some (.int x7), some (.int x8), some (.int x9), l10, l11, l12, l13]) (st' := [.int x5, .ref b3]) dX7_read_179 (fun _ => rfl) ?_
      refine r_g (pc' := 183) (ls' := [some (.ref r0), some (.int x1), l2, l3, some (.int x4), some (.int x5), some (.int x6), some (.int x7), some (.int x8), some (.int x9), l10, l11, l12, l13]) (st' := [.int x8, .int x5, .ref b3]) dX7_read_181 (fun _ => rfl) ?_
      refine r_g (pc' := 184) (ls' := [some (.ref r0), some (.int x1), l2, l3, some (.int x4), some (.int x5), some (.int x6), some (.int x7), some (.int x8), some (.int x9), l10, l11, l12, l13]) (st' := [.int (x5 + x8), .ref b3]) dX7_read_183 (fun _ => rfl) ?_
      refine r_ic (v := 1) dX7_read_184 (by decide) ?_
      refine r_g (pc' := 186) (ls' := [some (.ref r0), some (.int x1), l2, l3, some (.int x4), some (.int x5), some (.int x6), some (.int x7), some (.int x8), some (.int x9), l10, l11, l12, l13]) (st' := [.int ((x5 + x8) + 1), .ref b3]) dX7_read_185 (fun _ => rfl) ?_
      obtain ⟨n4, hj, hn, hK, hL, h⟩ := h
      refine r_iald dX7_read_186 hj hn hK hL ?_
      refine r_bi (v := 110) dX7_read_187 (by decide) ?_
      obtain ⟨h1, h2⟩ := h
      refine r_icmp (t := 213) dX7_read_189 (by decide) c_ne (fun c => ?_) (fun c => ?_)
      · have h := h1 c
        exact h
      · have h := h2 c
        refine r_g (pc' := 193) (ls' := [some (.ref r0), some (.int x1), l2, l3, some (.int x4), some (.int x5), some (.int x6), some (.int x7), some (.int x8), some (.int x9), l10, l11, l12, l13]) (st' := [.ref r0]) dX7_read_192 (fun _ => rfl) ?_
        obtain ⟨hK, b5, hP, h⟩ := h
        refine r_getP dX7_read_193 rfl (by decide) rfl hK hP ?_
        refine r_g (pc' := 198) (ls' := [some (.ref r0), some (.int x1), l2, l3, some (.int x4), some (.int x5), some (.int x6), some (.int x7), some (.int x8), some (.int x9), l10, l11, l12, l13]) (st' := [.int x5, .ref b5]) dX7_read_196 (fun _ => rfl) ?_
        refine r_g (pc' := 200) (ls' := [some (.ref r0), some (.int x1), l2, l3, some (.int x4), some (.int x5), some (.int x6), some (.int x7), some (.int x8), some (.int x9), l10, l11, l12, l13]) (st' := [.int x8, .int x5, .ref b5]) dX7_read_198 (fun _ => rfl) ?_
        refine r_g (pc' := 201) (ls' := [some (.ref r0), some (.int x1), l2, l3, some (.int x4), some (.int x5), some (.int x6), some (.int x7), some (.int x8), some (.int x9), l10, l11, l12, l13]) (st' := [.int (x5 + x8), .ref b5]) dX7_read_200 (fun _ => rfl) ?_
        refine r_ic (v := 2) dX7_read_201 (by decide) ?_
        refine r_g (pc' := 203) (ls' := [some (.ref r0), some (.int x1), l2, l3, some (.int x4), some (.int x5), some (.int x6), some (.int x7), some (.int x8), some (.int x9), l10, l11, l12, l13]) (st' := [.int ((x5 + x8) + 2), .ref b5]) dX7_read_202 (fun _ => rfl) ?_
        obtain ⟨n6, hj, hn, hK, hL, h⟩ := h
        refine r_iald dX7_read_203 hj hn hK hL ?_
        refine r_bi (v := 100) dX7_read_204 (by decide) ?_
        obtain ⟨h1, h2⟩ := h
        refine r_icmp (t := 213) dX7_read_206 (by decide) c_ne (fun c => ?_) (fun c => ?_)
        · have h := h1 c
          exact h
        · have h := h2 c
          refine r_ic (v := 1) dX7_read_209 (by decide) ?_
          refine r_goto (t := 214) dX7_read_210 (by decide) ?_
          exact h
theorem b110_213 {g : Nat → Nat} {C S : Nat} {σ : PS} {Q : Rs → PS → Prop} {r0 : Nat} {x1 : Int32} {l2 : Option Value} {l3 : Option Value} {x4 : Int32} {x5 : Int32} {x6 : Int32} {x7 : Int32} {x8 : Int32} {x9 : Int32} {l10 : Option Value} {l11 : Option Value} {l12 : Option Value} {l13 : Option Value}
    (h : WP g C S 110 214 [some (.ref r0), some (.int x1), l2, l3, some (.int x4), some (.int x5), some (.int x6), some (.int x7), some (.int x8), some (.int x9), l10, l11, l12, l13] [.int 0] σ Q) :
    WP g C S 110 213 [some (.ref r0), some (.int x1), l2, l3, some (.int x4), some (.int x5), some (.int x6), some (.int x7), some (.int x8), some (.int x9), l10, l11, l12, l13] [] σ Q := by
  refine r_ic (v := 0) dX7_read_213 (by decide) ?_
  exact h
theorem b110_214 {g : Nat → Nat} {C S : Nat} {σ : PS} {Q : Rs → PS → Prop} {r0 : Nat} {x1 : Int32} {l2 : Option Value} {l3 : Option Value} {x4 : Int32} {x5 : Int32} {x6 : Int32} {x7 : Int32} {x8 : Int32} {x9 : Int32} {l10 : Option Value} {l11 : Option Value} {l12 : Option Value} {l13 : Option Value} {u0 : Int32}
    (h : ((u0 : Int32) = 0 → WP g C S 110 252 [some (.ref r0), some (.int x1), l2, l3, some (.int x4), some (.int x5), some (.int x6), some (.int x7), some (.int x8), some (.int x9), some (.int u0), some (.int x8), some (.int x8), l13] [] σ Q) ∧ (¬ ((u0 : Int32) = 0) → zK σ r0 = 9 ∧ WP g C S 109 0 [some (.ref r0), some (.int x1), some (.int x6), some (.int x7), none, none, none, none, none, none] [] σ (KK g C S 110 230 [some (.ref r0), some (.int x1), l2, l3, some (.int x4), some (.int x5), some (.int x6), some (.int x7), some (.int x8), some (.int x9), some (.int u0), l11, l12, l13] [] Q false))) :
    WP g C S 110 214 [some (.ref r0), some (.int x1), l2, l3, some (.int x4), some (.int x5), some (.int x6), some (.int x7), some (.int x8), some (.int x9), l10, l11, l12, l13] [.int u0] σ Q := by
  refine r_g (pc' := 216) (ls' := [some (.ref r0), some (.int x1), l2, l3, some (.int x4), some (.int x5), some (.int x6), some (.int x7), some (.int x8), some (.int x9), some (.int u0), l11, l12, l13]) (st' := []) dX7_read_214 (fun _ => rfl) ?_
  refine r_g (pc' := 218) (ls' := [some (.ref r0), some (.int x1), l2, l3, some (.int x4), some (.int x5), some (.int x6), some (.int x7), some (.int x8), some (.int x9), some (.int u0), l11, l12, l13]) (st' := [.int u0]) dX7_read_216 (fun _ => rfl) ?_
  obtain ⟨h1, h2⟩ := h
  refine r_if (t := 244) dX7_read_218 (by decide) c_eq (fun c => ?_) (fun c => ?_)
  · have h := h1 c
    refine r_g (pc' := 246) (ls' := [some (.ref r0), some (.int x1), l2, l3, some (.int x4), some (.int x5), some (.int x6), some (.int x7), some (.int x8), some (.int x9), some (.int u0), l11, l12, l13]) (st' := [.int x8]) dX7_read_244 (fun _ => rfl) ?_
    refine r_g (pc' := 248) (ls' := [some (.ref r0), some (.int x1), l2, l3, some (.int x4), some (.int x5), some (.int x6), some (.int x7), some (.int x8), some (.int x9), some (.int u0), some (.int x8), l12, l13]) (st' := []) dX7_read_246 (fun _ => rfl) ?_
    refine r_g (pc' := 250) (ls' := [some (.ref r0), some (.int x1), l2, l3, some (.int x4), some (.int x5), some (.int x6), some (.int x7), some (.int x8), some (.int x9), some (.int u0), some (.int x8), l12, l13]) (st' := [.int x8]) dX7_read_248 (fun _ => rfl) ?_
    refine r_g (pc' := 252) (ls' := [some (.ref r0), some (.int x1), l2, l3, some (.int x4), some (.int x5), some (.int x6), some (.int x7), some (.int x8), some (.int x9), some (.int u0), some (.int x8), some (.int x8), l13]) (st' := []) dX7_read_250 (fun _ => rfl) ?_
    exact h
  · have h := h2 c
    refine r_g (pc' := 222) (ls' := [some (.ref r0), some (.int x1), l2, l3, some (.int x4), some (.int x5), some (.int x6), some (.int x7), some (.int x8), some (.int x9), some (.int u0), l11, l12, l13]) (st' := [.ref r0]) dX7_read_221 (fun _ => rfl) ?_
    refine r_g (pc' := 223) (ls' := [some (.ref r0), some (.int x1), l2, l3, some (.int x4), some (.int x5), some (.int x6), some (.int x7), some (.int x8), some (.int x9), some (.int u0), l11, l12, l13]) (st' := [.int x1, .ref r0]) dX7_read_222 (fun _ => rfl) ?_
    refine r_g (pc' := 225) (ls' := [some (.ref r0), some (.int x1), l2, l3, some (.int x4), some (.int x5), some (.int x6), some (.int x7), some (.int x8), some (.int x9), some (.int u0), l11, l12, l13]) (st' := [.int x6, .int x1, .ref r0]) dX7_read_223 (fun _ => rfl) ?_
    refine r_g (pc' := 227) (ls' := [some (.ref r0), some (.int x1), l2, l3, some (.int x4), some (.int x5), some (.int x6), some (.int x7), some (.int x8), some (.int x9), some (.int u0), l11, l12, l13]) (st' := [.int x7, .int x6, .int x1, .ref r0]) dX7_read_225 (fun _ => rfl) ?_
    obtain ⟨hK, h⟩ := h
    exact r_call (th := false) dX7_read_227 (fun _ => ex_calV rfl (by decide)) rfl (Nat.le_of_ble_eq_true rfl) (Nat.le_of_ble_eq_true rfl) (Nat.le_of_ble_eq_true rfl) (rcv0 rfl rfl (by decide) hK) rfl rfl rfl (fun q => nomatch q) h
theorem b110_230 {g : Nat → Nat} {C S : Nat} {σ : PS} {Q : Rs → PS → Prop} {r0 : Nat} {x1 : Int32} {l2 : Option Value} {l3 : Option Value} {x4 : Int32} {x5 : Int32} {l6 : Option Value} {l7 : Option Value} {l8 : Option Value} {x9 : Int32} {l10 : Option Value} {l11 : Option Value} {l12 : Option Value} {l13 : Option Value}
    (h : zK σ r0 = 9 ∧ ∃ b1, zP σ r0 14 = some b1 ∧ (∃ n2 : Nat, x1 = nI n2 ∧ n2 < 2147483648 ∧ (zK σ b1 = 101 ∨ zK σ b1 = 1002) ∧ n2 < zL σ b1 ∧ (WP g C S 110 356 [some (.ref r0), some (.int x1), l2, l3, some (.int x4), some (.int x5), some (.int (zI σ b1 n2)), some (.int (-1)), l8, some (.int x9), l10, l11, l12, l13] [] σ Q))) :
    WP g C S 110 230 [some (.ref r0), some (.int x1), l2, l3, some (.int x4), some (.int x5), l6, l7, l8, some (.int x9), l10, l11, l12, l13] [] σ Q := by
  refine r_g (pc' := 231) (ls' := [some (.ref r0), some (.int x1), l2, l3, some (.int x4), some (.int x5), l6, l7, l8, some (.int x9), l10, l11, l12, l13]) (st' := [.ref r0]) dX7_read_230 (fun _ => rfl) ?_
  obtain ⟨hK, b1, hP, h⟩ := h
  refine r_getP dX7_read_231 rfl (by decide) rfl hK hP ?_
  refine r_g (pc' := 235) (ls' := [some (.ref r0), some (.int x1), l2, l3, some (.int x4), some (.int x5), l6, l7, l8, some (.int x9), l10, l11, l12, l13]) (st' := [.int x1, .ref b1]) dX7_read_234 (fun _ => rfl) ?_
  obtain ⟨n2, hj, hn, hK, hL, h⟩ := h
  refine r_iald dX7_read_235 hj hn hK hL ?_
  refine r_g (pc' := 238) (ls' := [some (.ref r0), some (.int x1), l2, l3, some (.int x4), some (.int x5), some (.int (zI σ b1 n2)), l7, l8, some (.int x9), l10, l11, l12, l13]) (st' := []) dX7_read_236 (fun _ => rfl) ?_
  refine r_ic (v := -1) dX7_read_238 (by decide) ?_
  refine r_g (pc' := 241) (ls' := [some (.ref r0), some (.int x1), l2, l3, some (.int x4), some (.int x5), some (.int (zI σ b1 n2)), some (.int (-1)), l8, some (.int x9), l10, l11, l12, l13]) (st' := []) dX7_read_239 (fun _ => rfl) ?_
  refine r_goto (t := 356) dX7_read_241 (by decide) ?_
  exact h
theorem b110_252 {g : Nat → Nat} {C S : Nat} {σ : PS} {Q : Rs → PS → Prop} {r0 : Nat} {x1 : Int32} {l2 : Option Value} {l3 : Option Value} {x4 : Int32} {x5 : Int32} {x6 : Int32} {x7 : Int32} {l8 : Option Value} {x9 : Int32} {l10 : Option Value} {x11 : Int32} {x12 : Int32} {l13 : Option Value}
    (h : ((x9 : Int32) < x12 → WP g C S 110 356 [some (.ref r0), some (.int x1), l2, l3, some (.int x4), some (.int x5), some (.int x6), some (.int x7), l8, some (.int x9), l10, some (.int x11), some (.int x12), l13] [] σ Q) ∧ (¬ ((x9 : Int32) < x12) → ((x9 : Int32) ≤ x12 → WP g C S 110 285 [some (.ref r0), some (.int x1), l2, l3, some (.int x4), some (.int x5), some (.int x6), some (.int x7), l8, some (.int x9), l10, some (.int x11), some (.int x12), l13] [] σ Q) ∧ (¬ ((x9 : Int32) ≤ x12) → zK σ r0 = 9 ∧ ∃ b1, zP σ r0 13 = some b1 ∧ (∃ n2 : Nat, x5 + x12 = nI n2 ∧ n2 < 2147483648 ∧ (zK σ b1 = 101 ∨ zK σ b1 = 1002) ∧ n2 < zL σ b1 ∧ ((¬ (zI σ b1 n2 : Int32) = 44 → WP g C S 110 285 [some (.ref r0), some (.int x1), l2, l3, some (.int x4), some (.int x5), some (.int x6), some (.int x7), l8, some (.int x9), l10, some (.int x11), some (.int x12), l13] [] σ Q) ∧ (¬ (¬ (zI σ b1 n2 : Int32) = 44) → WP g C S 110 286 [some (.ref r0), some (.int x1), l2, l3, some (.int x4), some (.int x5), some (.int x6), some (.int x7), l8, some (.int x9), l10, some (.int x11), some (.int x12), l13] [.int 1] σ Q)))))) :
    WP g C S 110 252 [some (.ref r0), some (.int x1), l2, l3, some (.int x4), some (.int x5), some (.int x6), some (.int x7), l8, some (.int x9), l10, some (.int x11), some (.int x12), l13] [] σ Q := by
  refine r_g (pc' := 254) (ls' := [some (.ref r0), some (.int x1), l2, l3, some (.int x4), some (.int x5), some (.int x6), some (.int x7), l8, some (.int x9), l10, some (.int x11), some (.int x12), l13]) (st' := [.int x12]) dX7_read_252 (fun _ => rfl) ?_
  refine r_g (pc' := 256) (ls' := [some (.ref r0), some (.int x1), l2, l3, some (.int x4), some (.int x5), some (.int x6), some (.int x7), l8, some (.int x9), l10, some (.int x11), some (.int x12), l13]) (st' := [.int x9, .int x12]) dX7_read_254 (fun _ => rfl) ?_
  obtain ⟨h1, h2⟩ := h
  refine r_icmp (t := 356) dX7_read_256 (by decide) c_gt (fun c => ?_) (fun c => ?_)
  · have h := h1 c
    exact h
  · have h := h2 c
    refine r_g (pc' := 261) (ls' := [some (.ref r0), some (.int x1), l2, l3, some (.int x4), some (.int x5), some (.int x6), some (.int x7), l8, some (.int x9), l10, some (.int x11), some (.int x12), l13]) (st' := [.int x12]) dX7_read_259 (fun _ => rfl) ?_
    refine r_g (pc' := 263) (ls' := [some (.ref r0), some (.int x1), l2, l3, some (.int x4), some (.int x5), some (.int x6), some (.int x7), l8, some (.int x9), l10, some (.int x11), some (.int x12), l13]) (st' := [.int x9, .int x12]) dX7_read_261 (fun _ => rfl) ?_
    obtain ⟨h1, h2⟩ := h
    refine r_icmp (t := 285) dX7_read_263 (by decide) c_ge (fun c => ?_) (fun c => ?_)
    · have h := h1 c
      exact h
    · have h := h2 c
      refine r_g (pc' := 267) (ls' := [some (.ref r0), some (.int x1), l2, l3, some (.int x4), some (.int x5), some (.int x6), some (.int x7), l8, some (.int x9), l10, some (.int x11), some (.int x12), l13]) (st' := [.ref r0]) dX7_read_266 (fun _ => rfl) ?_
      obtain ⟨hK, b1, hP, h⟩ := h
      refine r_getP dX7_read_267 rfl (by decide) rfl hK hP ?_
      refine r_g (pc' := 272) (ls' := [some (.ref r0), some (.int x1), l2, l3, some (.int x4), some (.int x5), some (.int x6), some (.int x7), l8, some (.int x9), l10, some (.int x11), some (.int x12), l13]) (st' := [.int x5, .ref b1]) dX7_read_270 (fun _ => rfl) ?_
      refine r_g (pc' := 274) (ls' := [some (.ref r0), some (.int x1), l2, l3, some (.int x4), some (.int x5), some (.int x6), some (.int x7), l8, some (.int x9), l10, some (.int x11), some (.int x12), l13]) (st' := [.int x12, .int x5, .ref b1]) dX7_read_272 (fun _ => rfl) ?_
      refine r_g (pc' := 275) (ls' := [some (.ref r0), some (.int x1), l2, l3, some (.int x4), some (.int x5), some (.int x6), some (.int x7), l8, some (.int x9), l10, some (.int x11), some (.int x12), l13]) (st' := [.int (x5 + x12), .ref b1]) dX7_read_274 (fun _ => rfl) ?_
      obtain ⟨n2, hj, hn, hK, hL, h⟩ := h
      refine r_iald dX7_read_275 hj hn hK hL ?_
      refine r_bi (v := 44) dX7_read_276 (by decide) ?_
      obtain ⟨h1, h2⟩ := h
      refine r_icmp (t := 285) dX7_read_278 (by decide) c_ne (fun c => ?_) (fun c => ?_)
      · have h := h1 c
        exact h
      · have h := h2 c
        refine r_ic (v := 1) dX7_read_281 (by decide) ?_
        refine r_goto (t := 286) dX7_read_282 (by decide) ?_
        exact h
theorem b110_285 {g : Nat → Nat} {C S : Nat} {σ : PS} {Q : Rs → PS → Prop} {r0 : Nat} {x1 : Int32} {l2 : Option Value} {l3 : Option Value} {x4 : Int32} {x5 : Int32} {x6 : Int32} {x7 : Int32} {l8 : Option Value} {x9 : Int32} {l10 : Option Value} {x11 : Int32} {x12 : Int32} {l13 : Option Value}
    (h : WP g C S 110 286 [some (.ref r0), some (.int x1), l2, l3, some (.int x4), some (.int x5), some (.int x6), some (.int x7), l8, some (.int x9), l10, some (.int x11), some (.int x12), l13] [.int 0] σ Q) :
    WP g C S 110 285 [some (.ref r0), some (.int x1), l2, l3, some (.int x4), some (.int x5), some (.int x6), some (.int x7), l8, some (.int x9), l10, some (.int x11), some (.int x12), l13] [] σ Q := by
  refine r_ic (v := 0) dX7_read_285 (by decide) ?_
  exact h
theorem b110_286 {g : Nat → Nat} {C S : Nat} {σ : PS} {Q : Rs → PS → Prop} {r0 : Nat} {x1 : Int32} {l2 : Option Value} {l3 : Option Value} {x4 : Int32} {x5 : Int32} {x6 : Int32} {x7 : Int32} {l8 : Option Value} {x9 : Int32} {l10 : Option Value} {x11 : Int32} {x12 : Int32} {l13 : Option Value} {u0 : Int32}
    (h : (¬ (u0 : Int32) = 0 → WP g C S 110 300 [some (.ref r0), some (.int x1), l2, l3, some (.int x4), some (.int x5), some (.int x6), some (.int x7), l8, some (.int x9), l10, some (.int x11), some (.int x12), some (.int u0)] [] σ Q) ∧ (¬ (¬ (u0 : Int32) = 0) → (¬ (x12 : Int32) = x9 → WP g C S 110 328 [some (.ref r0), some (.int x1), l2, l3, some (.int x4), some (.int x5), some (.int x6), some (.int x7), l8, some (.int x9), l10, some (.int x11), some (.int x12), some (.int u0)] [] σ Q) ∧ (¬ (¬ (x12 : Int32) = x9) → WP g C S 110 300 [some (.ref r0), some (.int x1), l2, l3, some (.int x4), some (.int x5), some (.int x6), some (.int x7), l8, some (.int x9), l10, some (.int x11), some (.int x12), some (.int u0)] [] σ Q))) :
    WP g C S 110 286 [some (.ref r0), some (.int x1), l2, l3, some (.int x4), some (.int x5), some (.int x6), some (.int x7), l8, some (.int x9), l10, some (.int x11), some (.int x12), l13] [.int u0] σ Q := by
  refine r_g (pc' := 288) (ls' := [some (.ref r0), some (.int x1), l2, l3, some (.int x4), some (.int x5), some (.int x6), some (.int x7), l8, some (.int x9), l10, some (.int x11), some (.int x12), some (.int u0)]) (st' := []) dX7_read_286 (fun _ => rfl) ?_
  refine r_g (pc' := 290) (ls' := [some (.ref r0), some (.int x1), l2, l3, some (.int x4), some (.int x5), some (.int x6), some (.int x7), l8, some (.int x9), l10, some (.int x11), some (.int x12), some (.int u0)]) (st' := [.int u0]) dX7_read_288 (fun _ => rfl) ?_
  obtain ⟨h1, h2⟩ := h
  refine r_if (t := 300) dX7_read_290 (by decide) c_ne (fun c => ?_) (fun c => ?_)
  · have h := h1 c
    exact h
  · have h := h2 c
    refine r_g (pc' := 295) (ls' := [some (.ref r0), some (.int x1), l2, l3, some (.int x4), some (.int x5), some (.int x6), some (.int x7), l8, some (.int x9), l10, some (.int x11), some (.int x12), some (.int u0)]) (st' := [.int x12]) dX7_read_293 (fun _ => rfl) ?_
    refine r_g (pc' := 297) (ls' := [some (.ref r0), some (.int x1), l2, l3, some (.int x4), some (.int x5), some (.int x6), some (.int x7), l8, some (.int x9), l10, some (.int x11), some (.int x12), some (.int u0)]) (st' := [.int x9, .int x12]) dX7_read_295 (fun _ => rfl) ?_
    obtain ⟨h1, h2⟩ := h
    refine r_icmp (t := 328) dX7_read_297 (by decide) c_ne (fun c => ?_) (fun c => ?_)
    · have h := h1 c
      exact h
    · have h := h2 c
      exact h
theorem b110_300 {g : Nat → Nat} {C S : Nat} {σ : PS} {Q : Rs → PS → Prop} {r0 : Nat} {x1 : Int32} {l2 : Option Value} {l3 : Option Value} {x4 : Int32} {x5 : Int32} {x6 : Int32} {x7 : Int32} {l8 : Option Value} {x9 : Int32} {l10 : Option Value} {x11 : Int32} {x12 : Int32} {x13 : Int32}
    (h : ((x12 : Int32) ≤ x11 → WP g C S 110 322 [some (.ref r0), some (.int x1), l2, l3, some (.int x4), some (.int x5), some (.int x6), some (.int x7), l8, some (.int x9), l10, some (.int x11), some (.int x12), some (.int x13)] [] σ Q) ∧ (¬ ((x12 : Int32) ≤ x11) → zK σ r0 = 9 ∧ WP g C S 108 0 [some (.ref r0), some (.int x1), some (.int (x5 + x11)), some (.int (x5 + x12)), none] [] σ (KK g C S 110 322 [some (.ref r0), some (.int x1), l2, l3, some (.int x4), some (.int x5), some (.int x6), some (.int x7), l8, some (.int x9), l10, some (.int x11), some (.int x12), some (.int x13)] [] Q false))) :
    WP g C S 110 300 [some (.ref r0), some (.int x1), l2, l3, some (.int x4), some (.int x5), some (.int x6), some (.int x7), l8, some (.int x9), l10, some (.int x11), some (.int x12), some (.int x13)] [] σ Q := by
  refine r_g (pc' := 302) (ls' := [some (.ref r0), some (.int x1), l2, l3, some (.int x4), some (.int x5), some (.int x6), some (.int x7), l8, some (.int x9), l10, some (.int x11), some (.int x12), some (.int x13)]) (st' := [.int x12]) dX7_read_300 (fun _ => rfl) ?_
  refine r_g (pc' := 304) (ls' := [some (.ref r0), some (.int x1), l2, l3, some (.int x4), some (.int x5), some (.int x6), some (.int x7), l8, some (.int x9), l10, some (.int x11), some (.int x12), some (.int x13)]) (st' := [.int x11, .int x12]) dX7_read_302 (fun _ => rfl) ?_
  obtain ⟨h1, h2⟩ := h
  refine r_icmp (t := 322) dX7_read_304 (by decide) c_le (fun c => ?_) (fun c => ?_)
  · have h := h1 c
    exact h
  · have h := h2 c
    refine r_g (pc' := 308) (ls' := [some (.ref r0), some (.int x1), l2, l3, some (.int x4), some (.int x5), some (.int x6), some (.int x7), l8, some (.int x9), l10, some (.int x11), some (.int x12), some (.int x13)]) (st' := [.ref r0]) dX7_read_307 (fun _ => rfl) ?_
    refine r_g (pc' := 309) (ls' := [some (.ref r0), some (.int x1), l2, l3, some (.int x4), some (.int x5), some (.int x6), some (.int x7), l8, some (.int x9), l10, some (.int x11), some (.int x12), some (.int x13)]) (st' := [.int x1, .ref r0]) dX7_read_308 (fun _ => rfl) ?_
    refine r_g (pc' := 311) (ls' := [some (.ref r0), some (.int x1), l2, l3, some (.int x4), some (.int x5), some (.int x6), some (.int x7), l8, some (.int x9), l10, some (.int x11), some (.int x12), some (.int x13)]) (st' := [.int x5, .int x1, .ref r0]) dX7_read_309 (fun _ => rfl) ?_
    refine r_g (pc' := 313) (ls' := [some (.ref r0), some (.int x1), l2, l3, some (.int x4), some (.int x5), some (.int x6), some (.int x7), l8, some (.int x9), l10, some (.int x11), some (.int x12), some (.int x13)]) (st' := [.int x11, .int x5, .int x1, .ref r0]) dX7_read_311 (fun _ => rfl) ?_
    refine r_g (pc' := 314) (ls' := [some (.ref r0), some (.int x1), l2, l3, some (.int x4), some (.int x5), some (.int x6), some (.int x7), l8, some (.int x9), l10, some (.int x11), some (.int x12), some (.int x13)]) (st' := [.int (x5 + x11), .int x1, .ref r0]) dX7_read_313 (fun _ => rfl) ?_
    refine r_g (pc' := 316) (ls' := [some (.ref r0), some (.int x1), l2, l3, some (.int x4), some (.int x5), some (.int x6), some (.int x7), l8, some (.int x9), l10, some (.int x11), some (.int x12), some (.int x13)]) (st' := [.int x5, .int (x5 + x11), .int x1, .ref r0]) dX7_read_314 (fun _ => rfl) ?_
    refine r_g (pc' := 318) (ls' := [some (.ref r0), some (.int x1), l2, l3, some (.int x4), some (.int x5), some (.int x6), some (.int x7), l8, some (.int x9), l10, some (.int x11), some (.int x12), some (.int x13)]) (st' := [.int x12, .int x5, .int (x5 + x11), .int x1, .ref r0]) dX7_read_316 (fun _ => rfl) ?_
    refine r_g (pc' := 319) (ls' := [some (.ref r0), some (.int x1), l2, l3, some (.int x4), some (.int x5), some (.int x6), some (.int x7), l8, some (.int x9), l10, some (.int x11), some (.int x12), some (.int x13)]) (st' := [.int (x5 + x12), .int (x5 + x11), .int x1, .ref r0]) dX7_read_318 (fun _ => rfl) ?_
    obtain ⟨hK, h⟩ := h
    exact r_call (th := false) dX7_read_319 (fun _ => ex_calV rfl (by decide)) rfl (Nat.le_of_ble_eq_true rfl) (Nat.le_of_ble_eq_true rfl) (Nat.le_of_ble_eq_true rfl) (rcv0 rfl rfl (by decide) hK) rfl rfl rfl (fun q => nomatch q) h
theorem b110_322 {g : Nat → Nat} {C S : Nat} {σ : PS} {Q : Rs → PS → Prop} {r0 : Nat} {x1 : Int32} {l2 : Option Value} {l3 : Option Value} {x4 : Int32} {x5 : Int32} {x6 : Int32} {x7 : Int32} {l8 : Option Value} {x9 : Int32} {l10 : Option Value} {l11 : Option Value} {x12 : Int32} {x13 : Int32}
    (h : WP g C S 110 328 [some (.ref r0), some (.int x1), l2, l3, some (.int x4), some (.int x5), some (.int x6), some (.int x7), l8, some (.int x9), (clr l10), some (.int (x12 + 1)), some (.int x12), some (.int x13)] [] σ Q) :
    WP g C S 110 322 [some (.ref r0), some (.int x1), l2, l3, some (.int x4), some (.int x5), some (.int x6), some (.int x7), l8, some (.int x9), l10, l11, some (.int x12), some (.int x13)] [] σ Q := by
  refine r_g (pc' := 324) (ls' := [some (.ref r0), some (.int x1), l2, l3, some (.int x4), some (.int x5), some (.int x6), some (.int x7), l8, some (.int x9), l10, l11, some (.int x12), some (.int x13)]) (st' := [.int x12]) dX7_read_322 (fun _ => rfl) ?_
  refine r_ic (v := 1) dX7_read_324 (by decide) ?_
  refine r_g (pc' := 326) (ls' := [some (.ref r0), some (.int x1), l2, l3, some (.int x4), some (.int x5), some (.int x6), some (.int x7), l8, some (.int x9), l10, l11, some (.int x12), some (.int x13)]) (st' := [.int (x12 + 1)]) dX7_read_325 (fun _ => rfl) ?_
  refine r_g (pc' := 328) (ls' := [some (.ref r0), some (.int x1), l2, l3, some (.int x4), some (.int x5), some (.int x6), some (.int x7), l8, some (.int x9), (clr l10), some (.int (x12 + 1)), some (.int x12), some (.int x13)]) (st' := []) dX7_read_326 (fun _ => rfl) ?_
  exact h
theorem b110_328 {g : Nat → Nat} {C S : Nat} {σ : PS} {Q : Rs → PS → Prop} {r0 : Nat} {x1 : Int32} {l2 : Option Value} {l3 : Option Value} {x4 : Int32} {x5 : Int32} {x6 : Int32} {x7 : Int32} {l8 : Option Value} {x9 : Int32} {l10 : Option Value} {x11 : Int32} {x12 : Int32} {x13 : Int32}
    (h : ((x13 : Int32) = 0 → WP g C S 110 350 [some (.ref r0), some (.int x1), l2, l3, some (.int x4), some (.int x5), some (.int x6), some (.int x7), l8, some (.int x9), l10, some (.int x11), some (.int x12), some (.int x13)] [] σ Q) ∧ (¬ ((x13 : Int32) = 0) → (¬ (x7 : Int32) = (-1) → WP g C S 110 350 [some (.ref r0), some (.int x1), l2, l3, some (.int x4), some (.int x5), some (.int x6), some (.int x7), l8, some (.int x9), l10, some (.int x11), some (.int x12), some (.int x13)] [] σ Q) ∧ (¬ (¬ (x7 : Int32) = (-1)) → zK σ r0 = 9 ∧ ∃ b1, zP σ r0 14 = some b1 ∧ (∃ n2 : Nat, x1 = nI n2 ∧ n2 < 2147483648 ∧ (zK σ b1 = 101 ∨ zK σ b1 = 1002) ∧ n2 < zL σ b1 ∧ (WP g C S 110 350 [some (.ref r0), some (.int x1), l2, l3, some (.int x4), some (.int x5), some (.int x6), some (.int ((zI σ b1 n2) - x6)), l8, some (.int x9), l10, some (.int x11), some (.int x12), some (.int x13)] [] σ Q))))) :
    WP g C S 110 328 [some (.ref r0), some (.int x1), l2, l3, some (.int x4), some (.int x5), some (.int x6), some (.int x7), l8, some (.int x9), l10, some (.int x11), some (.int x12), some (.int x13)] [] σ Q := by
  refine r_g (pc' := 330) (ls' := [some (.ref r0), some (.int x1), l2, l3, some (.int x4), some (.int x5), some (.int x6), some (.int x7), l8, some (.int x9), l10, some (.int x11), some (.int x12), some (.int x13)]) (st' := [.int x13]) dX7_read_328 (fun _ => rfl) ?_
  obtain ⟨h1, h2⟩ := h
  refine r_if (t := 350) dX7_read_330 (by decide) c_eq (fun c => ?_) (fun c => ?_)
  · have h := h1 c
    exact h
  · have h := h2 c
    refine r_g (pc' := 335) (ls' := [some (.ref r0), some (.int x1), l2, l3, some (.int x4), some (.int x5), some (.int x6), some (.int x7), l8, some (.int x9), l10, some (.int x11), some (.int x12), some (.int x13)]) (st' := [.int x7]) dX7_read_333 (fun _ => rfl) ?_
    refine r_ic (v := -1) dX7_read_335 (by decide) ?_
    obtain ⟨h1, h2⟩ := h
    refine r_icmp (t := 350) dX7_read_336 (by decide) c_ne (fun c => ?_) (fun c => ?_)
    · have h := h1 c
      exact h
    · have h := h2 c
      refine r_g (pc' := 340) (ls' := [some (.ref r0), some (.int x1), l2, l3, some (.int x4), some (.int x5), some (.int x6), some (.int x7), l8, some (.int x9), l10, some (.int x11), some (.int x12), some (.int x13)]) (st' := [.ref r0]) dX7_read_339 (fun _ => rfl) ?_
      obtain ⟨hK, b1, hP, h⟩ := h
      refine r_getP dX7_read_340 rfl (by decide) rfl hK hP ?_
      refine r_g (pc' := 344) (ls' := [some (.ref r0), some (.int x1), l2, l3, some (.int x4), some (.int x5), some (.int x6), some (.int x7), l8, some (.int x9), l10, some (.int x11), some (.int x12), some (.int x13)]) (st' := [.int x1, .ref b1]) dX7_read_343 (fun _ => rfl) ?_
      obtain ⟨n2, hj, hn, hK, hL, h⟩ := h
      refine r_iald dX7_read_344 hj hn hK hL ?_
      refine r_g (pc' := 347) (ls' := [some (.ref r0), some (.int x1), l2, l3, some (.int x4), some (.int x5), some (.int x6), some (.int x7), l8, some (.int x9), l10, some (.int x11), some (.int x12), some (.int x13)]) (st' := [.int x6, .int (zI σ b1 n2)]) dX7_read_345 (fun _ => rfl) ?_
      refine r_g (pc' := 348) (ls' := [some (.ref r0), some (.int x1), l2, l3, some (.int x4), some (.int x5), some (.int x6), some (.int x7), l8, some (.int x9), l10, some (.int x11), some (.int x12), some (.int x13)]) (st' := [.int ((zI σ b1 n2) - x6)]) dX7_read_347 (fun _ => rfl) ?_
      refine r_g (pc' := 350) (ls' := [some (.ref r0), some (.int x1), l2, l3, some (.int x4), some (.int x5), some (.int x6), some (.int ((zI σ b1 n2) - x6)), l8, some (.int x9), l10, some (.int x11), some (.int x12), some (.int x13)]) (st' := []) dX7_read_348 (fun _ => rfl) ?_
      exact h
theorem b110_350 {g : Nat → Nat} {C S : Nat} {σ : PS} {Q : Rs → PS → Prop} {r0 : Nat} {x1 : Int32} {l2 : Option Value} {l3 : Option Value} {x4 : Int32} {x5 : Int32} {x6 : Int32} {x7 : Int32} {l8 : Option Value} {x9 : Int32} {l10 : Option Value} {x11 : Int32} {x12 : Int32} {l13 : Option Value}
    (h : WP g C S 110 252 [some (.ref r0), some (.int x1), l2, l3, some (.int x4), some (.int x5), some (.int x6), some (.int x7), l8, some (.int x9), l10, some (.int x11), some (.int (x12 + 1)), l13] [] σ Q) :
    WP g C S 110 350 [some (.ref r0), some (.int x1), l2, l3, some (.int x4), some (.int x5), some (.int x6), some (.int x7), l8, some (.int x9), l10, some (.int x11), some (.int x12), l13] [] σ Q := by
  refine r_inc (v := 1) (ls' := [some (.ref r0), some (.int x1), l2, l3, some (.int x4), some (.int x5), some (.int x6), some (.int x7), l8, some (.int x9), l10, some (.int x11), some (.int (x12 + 1)), l13]) dX7_read_350 rfl (Nat.le_of_ble_eq_true rfl) (by decide) rfl ?_
  refine r_goto (t := 252) dX7_read_353 (by decide) ?_
  exact h
theorem b110_356 {g : Nat → Nat} {C S : Nat} {σ : PS} {Q : Rs → PS → Prop} {r0 : Nat} {x1 : Int32} {l2 : Option Value} {l3 : Option Value} {x4 : Int32} {x5 : Int32} {x6 : Int32} {x7 : Int32} {l8 : Option Value} {x9 : Int32} {l10 : Option Value} {l11 : Option Value} {l12 : Option Value} {l13 : Option Value}
    (h : WP g C S 110 91 [some (.ref r0), some (.int x1), l2, l3, some (.int x4), some (.int x5), some (.int x6), some (.int x7), some (.int x9), some (.int x9), l10, l11, l12, l13] [] σ Q) :
    WP g C S 110 356 [some (.ref r0), some (.int x1), l2, l3, some (.int x4), some (.int x5), some (.int x6), some (.int x7), l8, some (.int x9), l10, l11, l12, l13] [] σ Q := by
  refine r_g (pc' := 358) (ls' := [some (.ref r0), some (.int x1), l2, l3, some (.int x4), some (.int x5), some (.int x6), some (.int x7), l8, some (.int x9), l10, l11, l12, l13]) (st' := [.int x9]) dX7_read_356 (fun _ => rfl) ?_
  refine r_g (pc' := 360) (ls' := [some (.ref r0), some (.int x1), l2, l3, some (.int x4), some (.int x5), some (.int x6), some (.int x7), some (.int x9), some (.int x9), l10, l11, l12, l13]) (st' := []) dX7_read_358 (fun _ => rfl) ?_
  refine r_goto (t := 91) dX7_read_360 (by decide) ?_
  exact h
theorem b110_372 {g : Nat → Nat} {C S : Nat} {σ : PS} {Q : Rs → PS → Prop} {l0 : Option Value} {l1 : Option Value} {l2 : Option Value} {l3 : Option Value} {l4 : Option Value} {l5 : Option Value} {l6 : Option Value} {l7 : Option Value} {l8 : Option Value} {l9 : Option Value} {l10 : Option Value} {l11 : Option Value} {l12 : Option Value} {l13 : Option Value}
    (h : Q (Sum.inl none) σ) :
    WP g C S 110 372 [l0, l1, l2, l3, l4, l5, l6, l7, l8, l9, l10, l11, l12, l13] [] σ Q := by
  exact r_vret dX7_read_372 rfl h
theorem b111_0 {g : Nat → Nat} {C S : Nat} {σ : PS} {Q : Rs → PS → Prop} {r0 : Nat} {x1 : Int32}
    (h : zK σ r0 = 9 ∧ ∃ b1, zP σ r0 20 = some b1 ∧ (zK σ r0 = 9 ∧ ∃ n2 : Nat, zI σ r0 21 = nI n2 ∧ n2 < 2147483648 ∧ zK σ b1 = 101 ∧ n2 < zL σ b1 ∧ (∀ τ3, τ3 = stI σ b1 n2 x1 → zK τ3 r0 = 9 ∧ zK τ3 r0 = 9 ∧ (∀ τ4, τ4 = stI τ3 r0 21 ((zI τ3 r0 21) + 1) → Q (Sum.inl none) τ4)))) :
    WP g C S 111 0 [some (.ref r0), some (.int x1)] [] σ Q := by
  refine r_g (pc' := 1) (ls' := [some (.ref r0), some (.int x1)]) (st' := [.ref r0]) dX7_put_0 (fun _ => rfl) ?_
  obtain ⟨hK, b1, hP, h⟩ := h
  refine r_getP dX7_put_1 rfl (by decide) rfl hK hP ?_
  refine r_g (pc' := 5) (ls' := [some (.ref r0), some (.int x1)]) (st' := [.ref r0, .ref b1]) dX7_put_4 (fun _ => rfl) ?_
  obtain ⟨hK, h⟩ := h
  refine r_getI dX7_put_5 rfl (by decide) rfl hK ?_
  refine r_g (pc' := 9) (ls' := [some (.ref r0), some (.int x1)]) (st' := [.int x1, .int (zI σ r0 21), .ref b1]) dX7_put_8 (fun _ => rfl) ?_
  obtain ⟨n2, hj, hn, hK, hL, h⟩ := h
  refine r_iast dX7_put_9 hj hn hK hL ?_
  generalize eτ3 : stI σ b1 n2 x1 = τ3
  replace h := h _ eτ3.symm
  refine r_g (pc' := 11) (ls' := [some (.ref r0), some (.int x1)]) (st' := [.ref r0]) dX7_put_10 (fun _ => rfl) ?_
  refine r_g (pc' := 12) (ls' := [some (.ref r0), some (.int x1)]) (st' := [.ref r0, .ref r0]) dX7_put_11 (fun _ => rfl) ?_
  obtain ⟨hK, h⟩ := h
  refine r_getI dX7_put_12 rfl (by decide) rfl hK ?_
  refine r_ic (v := 1) dX7_put_15 (by decide) ?_
  refine r_g (pc' := 17) (ls' := [some (.ref r0), some (.int x1)]) (st' := [.int ((zI τ3 r0 21) + 1), .ref r0]) dX7_put_16 (fun _ => rfl) ?_
  obtain ⟨hK, h⟩ := h
  refine r_putI dX7_put_17 rfl (by decide) (Or.inl rfl) rfl (Or.inl rfl) hK ?_
  generalize eτ4 : stI τ3 r0 21 ((zI τ3 r0 21) + 1) = τ4
  replace h := h _ eτ4.symm
  exact r_vret dX7_put_20 rfl h
theorem b112_0 {g : Nat → Nat} {C S : Nat} {σ : PS} {Q : Rs → PS → Prop} {r0 : Nat} {y1 : Int64} {l2 : Option Value} {l3 : Option Value} {l4 : Option Value}
    (h : WP g C S 112 2 [some (.ref r0), some (.long y1), (clr l2), some (.long y1), none] [] σ Q) :
    WP g C S 112 0 [some (.ref r0), some (.long y1), l2, l3, l4] [] σ Q := by
  refine r_g (pc' := 1) (ls' := [some (.ref r0), some (.long y1), l2, l3, l4]) (st' := [.long y1]) dX7_say_0 (fun _ => rfl) ?_
  refine r_g (pc' := 2) (ls' := [some (.ref r0), some (.long y1), (clr l2), some (.long y1), none]) (st' := []) dX7_say_1 (fun _ => rfl) ?_
  exact h
theorem b112_2 {g : Nat → Nat} {C S : Nat} {σ : PS} {Q : Rs → PS → Prop} {r0 : Nat} {l1 : Option Value} {l2 : Option Value} {y3 : Int64} {l4 : Option Value}
    (h : ((lg_cmp y3 0 : Int32) = 0 → Q (Sum.inl none) σ) ∧ (¬ ((lg_cmp y3 0 : Int32) = 0) → (¬ (256 : Int64) = 0) ∧ zK σ r0 = 9 ∧ WP g C S 111 0 [some (.ref r0), some (.int (Int64.toInt32 (y3 - y3 / 256 * 256)))] [] σ (KK g C S 112 18 [some (.ref r0), l1, l2, some (.long y3), l4] [] Q false))) :
    WP g C S 112 2 [some (.ref r0), l1, l2, some (.long y3), l4] [] σ Q := by
  refine r_g (pc' := 3) (ls' := [some (.ref r0), l1, l2, some (.long y3), l4]) (st' := [.long y3]) dX7_say_2 (fun _ => rfl) ?_
  refine r_g (pc' := 4) (ls' := [some (.ref r0), l1, l2, some (.long y3), l4]) (st' := [.long 0, .long y3]) dX7_say_3 (fun _ => rfl) ?_
  refine r_g (pc' := 5) (ls' := [some (.ref r0), l1, l2, some (.long y3), l4]) (st' := [.int (lg_cmp y3 0)]) dX7_say_4 (fun _ => rfl) ?_
  obtain ⟨h1, h2⟩ := h
  refine r_if (t := 27) dX7_say_5 (by decide) c_eq (fun c => ?_) (fun c => ?_)
  · have h := h1 c
    exact r_vret dX7_say_27 rfl h
  · have h := h2 c
    refine r_g (pc' := 9) (ls' := [some (.ref r0), l1, l2, some (.long y3), l4]) (st' := [.ref r0]) dX7_say_8 (fun _ => rfl) ?_
    refine r_g (pc' := 10) (ls' := [some (.ref r0), l1, l2, some (.long y3), l4]) (st' := [.long y3, .ref r0]) dX7_say_9 (fun _ => rfl) ?_
    refine r_ldc2 dX7_say_10 rfl ?_
    obtain ⟨h0, h⟩ := h
    refine r_lrem dX7_say_13 h0 ?_
    refine r_g (pc' := 15) (ls' := [some (.ref r0), l1, l2, some (.long y3), l4]) (st' := [.int (Int64.toInt32 (y3 - y3 / 256 * 256)), .ref r0]) dX7_say_14 (fun _ => rfl) ?_
    obtain ⟨hK, h⟩ := h
    exact r_call (th := false) dX7_say_15 (fun _ => ex_calV rfl (by decide)) rfl (Nat.le_of_ble_eq_true rfl) (Nat.le_of_ble_eq_true rfl) (Nat.le_of_ble_eq_true rfl) (rcv0 rfl rfl (by decide) hK) rfl rfl rfl (fun q => nomatch q) h
theorem b112_18 {g : Nat → Nat} {C S : Nat} {σ : PS} {Q : Rs → PS → Prop} {r0 : Nat} {l1 : Option Value} {l2 : Option Value} {y3 : Int64} {l4 : Option Value}
    (h : (¬ (256 : Int64) = 0) ∧ WP g C S 112 2 [some (.ref r0), l1, (clr l2), some (.long (y3 / 256)), none] [] σ Q) :
    WP g C S 112 18 [some (.ref r0), l1, l2, some (.long y3), l4] [] σ Q := by
  refine r_g (pc' := 19) (ls' := [some (.ref r0), l1, l2, some (.long y3), l4]) (st' := [.long y3]) dX7_say_18 (fun _ => rfl) ?_
  refine r_ldc2 dX7_say_19 rfl ?_
  obtain ⟨h0, h⟩ := h
  refine r_ldiv dX7_say_22 h0 ?_
  refine r_g (pc' := 24) (ls' := [some (.ref r0), l1, (clr l2), some (.long (y3 / 256)), none]) (st' := []) dX7_say_23 (fun _ => rfl) ?_
  refine r_goto (t := 2) dX7_say_24 (by decide) ?_
  exact h
theorem b113_0 {g : Nat → Nat} {C S : Nat} {σ : PS} {Q : Rs → PS → Prop} {r0 : Nat} {x1 : Int32} {l2 : Option Value}
    (h : WP g C S 113 2 [some (.ref r0), some (.int x1), some (.int 0)] [] σ Q) :
    WP g C S 113 0 [some (.ref r0), some (.int x1), l2] [] σ Q := by
  refine r_ic (v := 0) dX7_putField_0 (by decide) ?_
  refine r_g (pc' := 2) (ls' := [some (.ref r0), some (.int x1), some (.int 0)]) (st' := []) dX7_putField_1 (fun _ => rfl) ?_
  exact h
theorem b113_2 {g : Nat → Nat} {C S : Nat} {σ : PS} {Q : Rs → PS → Prop} {r0 : Nat} {x1 : Int32} {x2 : Int32}
    (h : ((x1 : Int32) = (-1) → WP g C S 113 38 [some (.ref r0), some (.int x1), some (.int x2)] [] σ Q) ∧ (¬ ((x1 : Int32) = (-1)) → zK σ r0 = 9 ∧ ∃ b1, zP σ r0 5 = some b1 ∧ (∃ n2 : Nat, x1 = nI n2 ∧ n2 < 2147483648 ∧ (zK σ b1 = 101 ∨ zK σ b1 = 1002) ∧ n2 < zL σ b1 ∧ (((zI σ b1 n2 : Int32) ≤ x2 → WP g C S 113 38 [some (.ref r0), some (.int x1), some (.int x2)] [] σ Q) ∧ (¬ ((zI σ b1 n2 : Int32) ≤ x2) → zK σ r0 = 9 ∧ ∃ b3, zP σ r0 6 = some b3 ∧ (∃ n4 : Nat, (80 * x1) + x2 = nI n4 ∧ n4 < 2147483648 ∧ (zK σ b3 = 101 ∨ zK σ b3 = 1002) ∧ n4 < zL σ b3 ∧ (zK σ r0 = 9 ∧ WP g C S 111 0 [some (.ref r0), some (.int (zI σ b3 n4))] [] σ (KK g C S 113 32 [some (.ref r0), some (.int x1), some (.int x2)] [] Q false)))))))) :
    WP g C S 113 2 [some (.ref r0), some (.int x1), some (.int x2)] [] σ Q := by
  refine r_g (pc' := 3) (ls' := [some (.ref r0), some (.int x1), some (.int x2)]) (st' := [.int x1]) dX7_putField_2 (fun _ => rfl) ?_
  refine r_ic (v := -1) dX7_putField_3 (by decide) ?_
  obtain ⟨h1, h2⟩ := h
  refine r_icmp (t := 38) dX7_putField_4 (by decide) c_eq (fun c => ?_) (fun c => ?_)
  · have h := h1 c
    exact h
  · have h := h2 c
    refine r_g (pc' := 8) (ls' := [some (.ref r0), some (.int x1), some (.int x2)]) (st' := [.int x2]) dX7_putField_7 (fun _ => rfl) ?_
    refine r_g (pc' := 9) (ls' := [some (.ref r0), some (.int x1), some (.int x2)]) (st' := [.ref r0, .int x2]) dX7_putField_8 (fun _ => rfl) ?_
    obtain ⟨hK, b1, hP, h⟩ := h
    refine r_getP dX7_putField_9 rfl (by decide) rfl hK hP ?_
    refine r_g (pc' := 13) (ls' := [some (.ref r0), some (.int x1), some (.int x2)]) (st' := [.int x1, .ref b1, .int x2]) dX7_putField_12 (fun _ => rfl) ?_
    obtain ⟨n2, hj, hn, hK, hL, h⟩ := h
    refine r_iald dX7_putField_13 hj hn hK hL ?_
    obtain ⟨h1, h2⟩ := h
    refine r_icmp (t := 38) dX7_putField_14 (by decide) c_ge (fun c => ?_) (fun c => ?_)
    · have h := h1 c
      exact h
    · have h := h2 c
      refine r_g (pc' := 18) (ls' := [some (.ref r0), some (.int x1), some (.int x2)]) (st' := [.ref r0]) dX7_putField_17 (fun _ => rfl) ?_
      refine r_g (pc' := 19) (ls' := [some (.ref r0), some (.int x1), some (.int x2)]) (st' := [.ref r0, .ref r0]) dX7_putField_18 (fun _ => rfl) ?_
      obtain ⟨hK, b3, hP, h⟩ := h
      refine r_getP dX7_putField_19 rfl (by decide) rfl hK hP ?_
      refine r_bi (v := 80) dX7_putField_22 (by decide) ?_
      refine r_g (pc' := 25) (ls' := [some (.ref r0), some (.int x1), some (.int x2)]) (st' := [.int x1, .int 80, .ref b3, .ref r0]) dX7_putField_24 (fun _ => rfl) ?_
      refine r_g (pc' := 26) (ls' := [some (.ref r0), some (.int x1), some (.int x2)]) (st' := [.int (80 * x1), .ref b3, .ref r0]) dX7_putField_25 (fun _ => rfl) ?_
      refine r_g (pc' := 27) (ls' := [some (.ref r0), some (.int x1), some (.int x2)]) (st' := [.int x2, .int (80 * x1), .ref b3, .ref r0]) dX7_putField_26 (fun _ => rfl) ?_
      refine r_g (pc' := 28) (ls' := [some (.ref r0), some (.int x1), some (.int x2)]) (st' := [.int ((80 * x1) + x2), .ref b3, .ref r0]) dX7_putField_27 (fun _ => rfl) ?_
      obtain ⟨n4, hj, hn, hK, hL, h⟩ := h
      refine r_iald dX7_putField_28 hj hn hK hL ?_
      obtain ⟨hK, h⟩ := h
      exact r_call (th := false) dX7_putField_29 (fun _ => ex_calV rfl (by decide)) rfl (Nat.le_of_ble_eq_true rfl) (Nat.le_of_ble_eq_true rfl) (Nat.le_of_ble_eq_true rfl) (rcv0 rfl rfl (by decide) hK) rfl rfl rfl (fun q => nomatch q) h
theorem b113_32 {g : Nat → Nat} {C S : Nat} {σ : PS} {Q : Rs → PS → Prop} {r0 : Nat} {x1 : Int32} {x2 : Int32}
    (h : WP g C S 113 2 [some (.ref r0), some (.int x1), some (.int (x2 + 1))] [] σ Q) :
    WP g C S 113 32 [some (.ref r0), some (.int x1), some (.int x2)] [] σ Q := by
  refine r_inc (v := 1) (ls' := [some (.ref r0), some (.int x1), some (.int (x2 + 1))]) dX7_putField_32 rfl (Nat.le_of_ble_eq_true rfl) (by decide) rfl ?_
  refine r_goto (t := 2) dX7_putField_35 (by decide) ?_
  exact h
theorem b113_38 {g : Nat → Nat} {C S : Nat} {σ : PS} {Q : Rs → PS → Prop} {l0 : Option Value} {l1 : Option Value} {l2 : Option Value}
    (h : Q (Sum.inl none) σ) :
    WP g C S 113 38 [l0, l1, l2] [] σ Q := by
  exact r_vret dX7_putField_38 rfl h
theorem b114_0 {g : Nat → Nat} {C S : Nat} {σ : PS} {Q : Rs → PS → Prop} {r0 : Nat} {x1 : Int32} {x2 : Int32} {l3 : Option Value}
    (h : WP g C S 114 2 [some (.ref r0), some (.int x1), some (.int x2), some (.int 0)] [] σ Q) :
    WP g C S 114 0 [some (.ref r0), some (.int x1), some (.int x2), l3] [] σ Q := by
  refine r_ic (v := 0) dX7_putKey_0 (by decide) ?_
  refine r_g (pc' := 2) (ls' := [some (.ref r0), some (.int x1), some (.int x2), some (.int 0)]) (st' := []) dX7_putKey_1 (fun _ => rfl) ?_
  exact h
theorem b114_2 {g : Nat → Nat} {C S : Nat} {σ : PS} {Q : Rs → PS → Prop} {r0 : Nat} {x1 : Int32} {x2 : Int32} {x3 : Int32}
    (h : zK σ r0 = 9 ∧ ∃ b1, zP σ r0 3 = some b1 ∧ (∃ n2 : Nat, x1 = nI n2 ∧ n2 < 2147483648 ∧ (zK σ b1 = 101 ∨ zK σ b1 = 1002) ∧ n2 < zL σ b1 ∧ (((zI σ b1 n2 : Int32) ≤ x3 → WP g C S 114 38 [some (.ref r0), some (.int x1), some (.int x2), some (.int x3)] [] σ Q) ∧ (¬ ((zI σ b1 n2 : Int32) ≤ x3) → ((x2 : Int32) ≤ x3 → WP g C S 114 38 [some (.ref r0), some (.int x1), some (.int x2), some (.int x3)] [] σ Q) ∧ (¬ ((x2 : Int32) ≤ x3) → zK σ r0 = 9 ∧ ∃ b3, zP σ r0 4 = some b3 ∧ (∃ n4 : Nat, (16 * x1) + x3 = nI n4 ∧ n4 < 2147483648 ∧ (zK σ b3 = 101 ∨ zK σ b3 = 1002) ∧ n4 < zL σ b3 ∧ (zK σ r0 = 9 ∧ WP g C S 111 0 [some (.ref r0), some (.int (zI σ b3 n4))] [] σ (KK g C S 114 32 [some (.ref r0), some (.int x1), some (.int x2), some (.int x3)] [] Q false)))))))) :
    WP g C S 114 2 [some (.ref r0), some (.int x1), some (.int x2), some (.int x3)] [] σ Q := by
  refine r_g (pc' := 3) (ls' := [some (.ref r0), some (.int x1), some (.int x2), some (.int x3)]) (st' := [.int x3]) dX7_putKey_2 (fun _ => rfl) ?_
  refine r_g (pc' := 4) (ls' := [some (.ref r0), some (.int x1), some (.int x2), some (.int x3)]) (st' := [.ref r0, .int x3]) dX7_putKey_3 (fun _ => rfl) ?_
  obtain ⟨hK, b1, hP, h⟩ := h
  refine r_getP dX7_putKey_4 rfl (by decide) rfl hK hP ?_
  refine r_g (pc' := 8) (ls' := [some (.ref r0), some (.int x1), some (.int x2), some (.int x3)]) (st' := [.int x1, .ref b1, .int x3]) dX7_putKey_7 (fun _ => rfl) ?_
  obtain ⟨n2, hj, hn, hK, hL, h⟩ := h
  refine r_iald dX7_putKey_8 hj hn hK hL ?_
  obtain ⟨h1, h2⟩ := h
  refine r_icmp (t := 38) dX7_putKey_9 (by decide) c_ge (fun c => ?_) (fun c => ?_)
  · have h := h1 c
    exact h
  · have h := h2 c
    refine r_g (pc' := 13) (ls' := [some (.ref r0), some (.int x1), some (.int x2), some (.int x3)]) (st' := [.int x3]) dX7_putKey_12 (fun _ => rfl) ?_
    refine r_g (pc' := 14) (ls' := [some (.ref r0), some (.int x1), some (.int x2), some (.int x3)]) (st' := [.int x2, .int x3]) dX7_putKey_13 (fun _ => rfl) ?_
    obtain ⟨h1, h2⟩ := h
    refine r_icmp (t := 38) dX7_putKey_14 (by decide) c_ge (fun c => ?_) (fun c => ?_)
    · have h := h1 c
      exact h
    · have h := h2 c
      refine r_g (pc' := 18) (ls' := [some (.ref r0), some (.int x1), some (.int x2), some (.int x3)]) (st' := [.ref r0]) dX7_putKey_17 (fun _ => rfl) ?_
      refine r_g (pc' := 19) (ls' := [some (.ref r0), some (.int x1), some (.int x2), some (.int x3)]) (st' := [.ref r0, .ref r0]) dX7_putKey_18 (fun _ => rfl) ?_
      obtain ⟨hK, b3, hP, h⟩ := h
      refine r_getP dX7_putKey_19 rfl (by decide) rfl hK hP ?_
      refine r_bi (v := 16) dX7_putKey_22 (by decide) ?_
      refine r_g (pc' := 25) (ls' := [some (.ref r0), some (.int x1), some (.int x2), some (.int x3)]) (st' := [.int x1, .int 16, .ref b3, .ref r0]) dX7_putKey_24 (fun _ => rfl) ?_
      refine r_g (pc' := 26) (ls' := [some (.ref r0), some (.int x1), some (.int x2), some (.int x3)]) (st' := [.int (16 * x1), .ref b3, .ref r0]) dX7_putKey_25 (fun _ => rfl) ?_
      refine r_g (pc' := 27) (ls' := [some (.ref r0), some (.int x1), some (.int x2), some (.int x3)]) (st' := [.int x3, .int (16 * x1), .ref b3, .ref r0]) dX7_putKey_26 (fun _ => rfl) ?_
      refine r_g (pc' := 28) (ls' := [some (.ref r0), some (.int x1), some (.int x2), some (.int x3)]) (st' := [.int ((16 * x1) + x3), .ref b3, .ref r0]) dX7_putKey_27 (fun _ => rfl) ?_
      obtain ⟨n4, hj, hn, hK, hL, h⟩ := h
      refine r_iald dX7_putKey_28 hj hn hK hL ?_
      obtain ⟨hK, h⟩ := h
      exact r_call (th := false) dX7_putKey_29 (fun _ => ex_calV rfl (by decide)) rfl (Nat.le_of_ble_eq_true rfl) (Nat.le_of_ble_eq_true rfl) (Nat.le_of_ble_eq_true rfl) (rcv0 rfl rfl (by decide) hK) rfl rfl rfl (fun q => nomatch q) h
theorem b114_32 {g : Nat → Nat} {C S : Nat} {σ : PS} {Q : Rs → PS → Prop} {r0 : Nat} {x1 : Int32} {x2 : Int32} {x3 : Int32}
    (h : WP g C S 114 2 [some (.ref r0), some (.int x1), some (.int x2), some (.int (x3 + 1))] [] σ Q) :
    WP g C S 114 32 [some (.ref r0), some (.int x1), some (.int x2), some (.int x3)] [] σ Q := by
  refine r_inc (v := 1) (ls' := [some (.ref r0), some (.int x1), some (.int x2), some (.int (x3 + 1))]) dX7_putKey_32 rfl (Nat.le_of_ble_eq_true rfl) (by decide) rfl ?_
  refine r_goto (t := 2) dX7_putKey_35 (by decide) ?_
  exact h
theorem b114_38 {g : Nat → Nat} {C S : Nat} {σ : PS} {Q : Rs → PS → Prop} {l0 : Option Value} {l1 : Option Value} {l2 : Option Value} {l3 : Option Value}
    (h : Q (Sum.inl none) σ) :
    WP g C S 114 38 [l0, l1, l2, l3] [] σ Q := by
  exact r_vret dX7_putKey_38 rfl h
theorem b115_0 {g : Nat → Nat} {C S : Nat} {σ : PS} {Q : Rs → PS → Prop} {r0 : Nat} {x1 : Int32} {x2 : Int32} {x3 : Int32} {x4 : Int32} {l5 : Option Value} {l6 : Option Value} {l7 : Option Value} {l8 : Option Value}
    (h : zK σ r0 = 9 ∧ WP g C S 115 15 [some (.ref r0), some (.int x1), some (.int x2), some (.int x3), some (.int x4), some (.int (zI σ r0 21)), some (.int 0), some (.int (64 * x1)), l8] [] σ Q) :
    WP g C S 115 0 [some (.ref r0), some (.int x1), some (.int x2), some (.int x3), some (.int x4), l5, l6, l7, l8] [] σ Q := by
  refine r_g (pc' := 1) (ls' := [some (.ref r0), some (.int x1), some (.int x2), some (.int x3), some (.int x4), l5, l6, l7, l8]) (st' := [.ref r0]) dX7_putWords_0 (fun _ => rfl) ?_
  obtain ⟨hK, h⟩ := h
  refine r_getI dX7_putWords_1 rfl (by decide) rfl hK ?_
  refine r_g (pc' := 6) (ls' := [some (.ref r0), some (.int x1), some (.int x2), some (.int x3), some (.int x4), some (.int (zI σ r0 21)), l6, l7, l8]) (st' := []) dX7_putWords_4 (fun _ => rfl) ?_
  refine r_ic (v := 0) dX7_putWords_6 (by decide) ?_
  refine r_g (pc' := 9) (ls' := [some (.ref r0), some (.int x1), some (.int x2), some (.int x3), some (.int x4), some (.int (zI σ r0 21)), some (.int 0), l7, l8]) (st' := []) dX7_putWords_7 (fun _ => rfl) ?_
  refine r_bi (v := 64) dX7_putWords_9 (by decide) ?_
  refine r_g (pc' := 12) (ls' := [some (.ref r0), some (.int x1), some (.int x2), some (.int x3), some (.int x4), some (.int (zI σ r0 21)), some (.int 0), l7, l8]) (st' := [.int x1, .int 64]) dX7_putWords_11 (fun _ => rfl) ?_
  refine r_g (pc' := 13) (ls' := [some (.ref r0), some (.int x1), some (.int x2), some (.int x3), some (.int x4), some (.int (zI σ r0 21)), some (.int 0), l7, l8]) (st' := [.int (64 * x1)]) dX7_putWords_12 (fun _ => rfl) ?_
  refine r_g (pc' := 15) (ls' := [some (.ref r0), some (.int x1), some (.int x2), some (.int x3), some (.int x4), some (.int (zI σ r0 21)), some (.int 0), some (.int (64 * x1)), l8]) (st' := []) dX7_putWords_13 (fun _ => rfl) ?_
  exact h
theorem b115_15 {g : Nat → Nat} {C S : Nat} {σ : PS} {Q : Rs → PS → Prop} {r0 : Nat} {x1 : Int32} {x2 : Int32} {x3 : Int32} {x4 : Int32} {x5 : Int32} {x6 : Int32} {x7 : Int32} {l8 : Option Value}
    (h : zK σ r0 = 9 ∧ ∃ b1, zP σ r0 14 = some b1 ∧ (∃ n2 : Nat, x1 = nI n2 ∧ n2 < 2147483648 ∧ (zK σ b1 = 101 ∨ zK σ b1 = 1002) ∧ n2 < zL σ b1 ∧ ((((64 * x1) + (zI σ b1 n2) : Int32) ≤ x7 → zK σ r0 = 9 ∧ (((zI σ r0 21) - x5 : Int32) ≤ x4 → zK σ r0 = 9 ∧ WP g C S 115 136 [some (.ref r0), some (.int x1), some (.int x2), some (.int x3), some (.int x4), some (.int x5), some (.int x6), some (.int x7), l8] [.int (zI σ r0 21), .ref r0] σ Q) ∧ (¬ (((zI σ r0 21) - x5 : Int32) ≤ x4) → WP g C S 115 136 [some (.ref r0), some (.int x1), some (.int x2), some (.int x3), some (.int x4), some (.int x5), some (.int x6), some (.int x7), l8] [.int (x5 + x4), .ref r0] σ Q)) ∧ (¬ (((64 * x1) + (zI σ b1 n2) : Int32) ≤ x7) → zK σ r0 = 9 ∧ ∃ b3, zP σ r0 17 = some b3 ∧ (∃ n4 : Nat, x7 = nI n4 ∧ n4 < 2147483648 ∧ (zK σ b3 = 101 ∨ zK σ b3 = 1002) ∧ n4 < zL σ b3 ∧ ((¬ (zI σ b3 n4 : Int32) = x2 → WP g C S 115 105 [some (.ref r0), some (.int x1), some (.int x2), some (.int x3), some (.int x4), some (.int x5), some (.int x6), some (.int x7), l8] [] σ Q) ∧ (¬ (¬ (zI σ b3 n4 : Int32) = x2) → zK σ r0 = 9 ∧ ∃ b5, zP σ r0 18 = some b5 ∧ (∃ n6 : Nat, x7 = nI n6 ∧ n6 < 2147483648 ∧ (zK σ b5 = 101 ∨ zK σ b5 = 1002) ∧ n6 < zL σ b5 ∧ ((¬ (zI σ b5 n6 : Int32) = x3 → WP g C S 115 105 [some (.ref r0), some (.int x1), some (.int x2), some (.int x3), some (.int x4), some (.int x5), some (.int x6), some (.int x7), l8] [] σ Q) ∧ (¬ (¬ (zI σ b5 n6 : Int32) = x3) → ((x6 : Int32) = 0 → WP g C S 115 64 [some (.ref r0), some (.int x1), some (.int x2), some (.int x3), some (.int x4), some (.int x5), some (.int x6), some (.int x7), l8] [] σ Q) ∧ (¬ ((x6 : Int32) = 0) → zK σ r0 = 9 ∧ WP g C S 111 0 [some (.ref r0), some (.int 32)] [] σ (KK g C S 115 64 [some (.ref r0), some (.int x1), some (.int x2), some (.int x3), some (.int x4), some (.int x5), some (.int x6), some (.int x7), l8] [] Q false)))))))))))) :
    WP g C S 115 15 [some (.ref r0), some (.int x1), some (.int x2), some (.int x3), some (.int x4), some (.int x5), some (.int x6), some (.int x7), l8] [] σ Q := by
  refine r_g (pc' := 17) (ls' := [some (.ref r0), some (.int x1), some (.int x2), some (.int x3), some (.int x4), some (.int x5), some (.int x6), some (.int x7), l8]) (st' := [.int x7]) dX7_putWords_15 (fun _ => rfl) ?_
  refine r_bi (v := 64) dX7_putWords_17 (by decide) ?_
  refine r_g (pc' := 20) (ls' := [some (.ref r0), some (.int x1), some (.int x2), some (.int x3), some (.int x4), some (.int x5), some (.int x6), some (.int x7), l8]) (st' := [.int x1, .int 64, .int x7]) dX7_putWords_19 (fun _ => rfl) ?_
  refine r_g (pc' := 21) (ls' := [some (.ref r0), some (.int x1), some (.int x2), some (.int x3), some (.int x4), some (.int x5), some (.int x6), some (.int x7), l8]) (st' := [.int (64 * x1), .int x7]) dX7_putWords_20 (fun _ => rfl) ?_
  refine r_g (pc' := 22) (ls' := [some (.ref r0), some (.int x1), some (.int x2), some (.int x3), some (.int x4), some (.int x5), some (.int x6), some (.int x7), l8]) (st' := [.ref r0, .int (64 * x1), .int x7]) dX7_putWords_21 (fun _ => rfl) ?_
  obtain ⟨hK, b1, hP, h⟩ := h
  refine r_getP dX7_putWords_22 rfl (by decide) rfl hK hP ?_
  refine r_g (pc' := 26) (ls' := [some (.ref r0), some (.int x1), some (.int x2), some (.int x3), some (.int x4), some (.int x5), some (.int x6), some (.int x7), l8]) (st' := [.int x1, .ref b1, .int (64 * x1), .int x7]) dX7_putWords_25 (fun _ => rfl) ?_
  obtain ⟨n2, hj, hn, hK, hL, h⟩ := h
  refine r_iald dX7_putWords_26 hj hn hK hL ?_
  refine r_g (pc' := 28) (ls' := [some (.ref r0), some (.int x1), some (.int x2), some (.int x3), some (.int x4), some (.int x5), some (.int x6), some (.int x7), l8]) (st' := [.int ((64 * x1) + (zI σ b1 n2)), .int x7]) dX7_putWords_27 (fun _ => rfl) ?_
  obtain ⟨h1, h2⟩ := h
  refine r_icmp (t := 111) dX7_putWords_28 (by decide) c_ge (fun c => ?_) (fun c => ?_)
  · have h := h1 c
    refine r_g (pc' := 112) (ls' := [some (.ref r0), some (.int x1), some (.int x2), some (.int x3), some (.int x4), some (.int x5), some (.int x6), some (.int x7), l8]) (st' := [.ref r0]) dX7_putWords_111 (fun _ => rfl) ?_
    refine r_g (pc' := 113) (ls' := [some (.ref r0), some (.int x1), some (.int x2), some (.int x3), some (.int x4), some (.int x5), some (.int x6), some (.int x7), l8]) (st' := [.ref r0, .ref r0]) dX7_putWords_112 (fun _ => rfl) ?_
    obtain ⟨hK, h⟩ := h
    refine r_getI dX7_putWords_113 rfl (by decide) rfl hK ?_
    refine r_g (pc' := 118) (ls' := [some (.ref r0), some (.int x1), some (.int x2), some (.int x3), some (.int x4), some (.int x5), some (.int x6), some (.int x7), l8]) (st' := [.int x5, .int (zI σ r0 21), .ref r0]) dX7_putWords_116 (fun _ => rfl) ?_
    refine r_g (pc' := 119) (ls' := [some (.ref r0), some (.int x1), some (.int x2), some (.int x3), some (.int x4), some (.int x5), some (.int x6), some (.int x7), l8]) (st' := [.int ((zI σ r0 21) - x5), .ref r0]) dX7_putWords_118 (fun _ => rfl) ?_
    refine r_g (pc' := 121) (ls' := [some (.ref r0), some (.int x1), some (.int x2), some (.int x3), some (.int x4), some (.int x5), some (.int x6), some (.int x7), l8]) (st' := [.int x4, .int ((zI σ r0 21) - x5), .ref r0]) dX7_putWords_119 (fun _ => rfl) ?_
    obtain ⟨h1, h2⟩ := h
    refine r_icmp (t := 132) dX7_putWords_121 (by decide) c_le (fun c => ?_) (fun c => ?_)
    · have h := h1 c
      refine r_g (pc' := 133) (ls' := [some (.ref r0), some (.int x1), some (.int x2), some (.int x3), some (.int x4), some (.int x5), some (.int x6), some (.int x7), l8]) (st' := [.ref r0, .ref r0]) dX7_putWords_132 (fun _ => rfl) ?_
      obtain ⟨hK, h⟩ := h
      refine r_getI dX7_putWords_133 rfl (by decide) rfl hK ?_
      exact h
    · have h := h2 c
      refine r_g (pc' := 126) (ls' := [some (.ref r0), some (.int x1), some (.int x2), some (.int x3), some (.int x4), some (.int x5), some (.int x6), some (.int x7), l8]) (st' := [.int x5, .ref r0]) dX7_putWords_124 (fun _ => rfl) ?_
      refine r_g (pc' := 128) (ls' := [some (.ref r0), some (.int x1), some (.int x2), some (.int x3), some (.int x4), some (.int x5), some (.int x6), some (.int x7), l8]) (st' := [.int x4, .int x5, .ref r0]) dX7_putWords_126 (fun _ => rfl) ?_
      refine r_g (pc' := 129) (ls' := [some (.ref r0), some (.int x1), some (.int x2), some (.int x3), some (.int x4), some (.int x5), some (.int x6), some (.int x7), l8]) (st' := [.int (x5 + x4), .ref r0]) dX7_putWords_128 (fun _ => rfl) ?_
      refine r_goto (t := 136) dX7_putWords_129 (by decide) ?_
      exact h
  · have h := h2 c
    refine r_g (pc' := 32) (ls' := [some (.ref r0), some (.int x1), some (.int x2), some (.int x3), some (.int x4), some (.int x5), some (.int x6), some (.int x7), l8]) (st' := [.ref r0]) dX7_putWords_31 (fun _ => rfl) ?_
    obtain ⟨hK, b3, hP, h⟩ := h
    refine r_getP dX7_putWords_32 rfl (by decide) rfl hK hP ?_
    refine r_g (pc' := 37) (ls' := [some (.ref r0), some (.int x1), some (.int x2), some (.int x3), some (.int x4), some (.int x5), some (.int x6), some (.int x7), l8]) (st' := [.int x7, .ref b3]) dX7_putWords_35 (fun _ => rfl) ?_
    obtain ⟨n4, hj, hn, hK, hL, h⟩ := h
    refine r_iald dX7_putWords_37 hj hn hK hL ?_
    refine r_g (pc' := 39) (ls' := [some (.ref r0), some (.int x1), some (.int x2), some (.int x3), some (.int x4), some (.int x5), some (.int x6), some (.int x7), l8]) (st' := [.int x2, .int (zI σ b3 n4)]) dX7_putWords_38 (fun _ => rfl) ?_
    obtain ⟨h1, h2⟩ := h
    refine r_icmp (t := 105) dX7_putWords_39 (by decide) c_ne (fun c => ?_) (fun c => ?_)
    · have h := h1 c
      exact h
    · have h := h2 c
      refine r_g (pc' := 43) (ls' := [some (.ref r0), some (.int x1), some (.int x2), some (.int x3), some (.int x4), some (.int x5), some (.int x6), some (.int x7), l8]) (st' := [.ref r0]) dX7_putWords_42 (fun _ => rfl) ?_
      obtain ⟨hK, b5, hP, h⟩ := h
      refine r_getP dX7_putWords_43 rfl (by decide) rfl hK hP ?_
      refine r_g (pc' := 48) (ls' := [some (.ref r0), some (.int x1), some (.int x2), some (.int x3), some (.int x4), some (.int x5), some (.int x6), some (.int x7), l8]) (st' := [.int x7, .ref b5]) dX7_putWords_46 (fun _ => rfl) ?_
      obtain ⟨n6, hj, hn, hK, hL, h⟩ := h
      refine r_iald dX7_putWords_48 hj hn hK hL ?_
      refine r_g (pc' := 50) (ls' := [some (.ref r0), some (.int x1), some (.int x2), some (.int x3), some (.int x4), some (.int x5), some (.int x6), some (.int x7), l8]) (st' := [.int x3, .int (zI σ b5 n6)]) dX7_putWords_49 (fun _ => rfl) ?_
      obtain ⟨h1, h2⟩ := h
      refine r_icmp (t := 105) dX7_putWords_50 (by decide) c_ne (fun c => ?_) (fun c => ?_)
      · have h := h1 c
        exact h
      · have h := h2 c
        refine r_g (pc' := 55) (ls' := [some (.ref r0), some (.int x1), some (.int x2), some (.int x3), some (.int x4), some (.int x5), some (.int x6), some (.int x7), l8]) (st' := [.int x6]) dX7_putWords_53 (fun _ => rfl) ?_
        obtain ⟨h1, h2⟩ := h
        refine r_if (t := 64) dX7_putWords_55 (by decide) c_eq (fun c => ?_) (fun c => ?_)
        · have h := h1 c
          exact h
        · have h := h2 c
          refine r_g (pc' := 59) (ls' := [some (.ref r0), some (.int x1), some (.int x2), some (.int x3), some (.int x4), some (.int x5), some (.int x6), some (.int x7), l8]) (st' := [.ref r0]) dX7_putWords_58 (fun _ => rfl) ?_
          refine r_bi (v := 32) dX7_putWords_59 (by decide) ?_
          obtain ⟨hK, h⟩ := h
          exact r_call (th := false) dX7_putWords_61 (fun _ => ex_calV rfl (by decide)) rfl (Nat.le_of_ble_eq_true rfl) (Nat.le_of_ble_eq_true rfl) (Nat.le_of_ble_eq_true rfl) (rcv0 rfl rfl (by decide) hK) rfl rfl rfl (fun q => nomatch q) h
theorem b115_64 {g : Nat → Nat} {C S : Nat} {σ : PS} {Q : Rs → PS → Prop} {r0 : Nat} {x1 : Int32} {x2 : Int32} {x3 : Int32} {x4 : Int32} {x5 : Int32} {l6 : Option Value} {x7 : Int32} {l8 : Option Value}
    (h : zK σ r0 = 9 ∧ ∃ b1, zP σ r0 15 = some b1 ∧ (∃ n2 : Nat, x7 = nI n2 ∧ n2 < 2147483648 ∧ (zK σ b1 = 101 ∨ zK σ b1 = 1002) ∧ n2 < zL σ b1 ∧ (WP g C S 115 76 [some (.ref r0), some (.int x1), some (.int x2), some (.int x3), some (.int x4), some (.int x5), some (.int 1), some (.int x7), some (.int (zI σ b1 n2))] [] σ Q))) :
    WP g C S 115 64 [some (.ref r0), some (.int x1), some (.int x2), some (.int x3), some (.int x4), some (.int x5), l6, some (.int x7), l8] [] σ Q := by
  refine r_ic (v := 1) dX7_putWords_64 (by decide) ?_
  refine r_g (pc' := 67) (ls' := [some (.ref r0), some (.int x1), some (.int x2), some (.int x3), some (.int x4), some (.int x5), some (.int 1), some (.int x7), l8]) (st' := []) dX7_putWords_65 (fun _ => rfl) ?_
  refine r_g (pc' := 68) (ls' := [some (.ref r0), some (.int x1), some (.int x2), some (.int x3), some (.int x4), some (.int x5), some (.int 1), some (.int x7), l8]) (st' := [.ref r0]) dX7_putWords_67 (fun _ => rfl) ?_
  obtain ⟨hK, b1, hP, h⟩ := h
  refine r_getP dX7_putWords_68 rfl (by decide) rfl hK hP ?_
  refine r_g (pc' := 73) (ls' := [some (.ref r0), some (.int x1), some (.int x2), some (.int x3), some (.int x4), some (.int x5), some (.int 1), some (.int x7), l8]) (st' := [.int x7, .ref b1]) dX7_putWords_71 (fun _ => rfl) ?_
  obtain ⟨n2, hj, hn, hK, hL, h⟩ := h
  refine r_iald dX7_putWords_73 hj hn hK hL ?_
  refine r_g (pc' := 76) (ls' := [some (.ref r0), some (.int x1), some (.int x2), some (.int x3), some (.int x4), some (.int x5), some (.int 1), some (.int x7), some (.int (zI σ b1 n2))]) (st' := []) dX7_putWords_74 (fun _ => rfl) ?_
  exact h
theorem b115_76 {g : Nat → Nat} {C S : Nat} {σ : PS} {Q : Rs → PS → Prop} {r0 : Nat} {x1 : Int32} {x2 : Int32} {x3 : Int32} {x4 : Int32} {x5 : Int32} {x6 : Int32} {x7 : Int32} {x8 : Int32}
    (h : zK σ r0 = 9 ∧ ∃ b1, zP σ r0 16 = some b1 ∧ (∃ n2 : Nat, x7 = nI n2 ∧ n2 < 2147483648 ∧ (zK σ b1 = 101 ∨ zK σ b1 = 1002) ∧ n2 < zL σ b1 ∧ (((zI σ b1 n2 : Int32) ≤ x8 → WP g C S 115 105 [some (.ref r0), some (.int x1), some (.int x2), some (.int x3), some (.int x4), some (.int x5), some (.int x6), some (.int x7), some (.int x8)] [] σ Q) ∧ (¬ ((zI σ b1 n2 : Int32) ≤ x8) → zK σ r0 = 9 ∧ ∃ b3, zP σ r0 13 = some b3 ∧ (∃ n4 : Nat, x8 = nI n4 ∧ n4 < 2147483648 ∧ (zK σ b3 = 101 ∨ zK σ b3 = 1002) ∧ n4 < zL σ b3 ∧ (zK σ r0 = 9 ∧ WP g C S 111 0 [some (.ref r0), some (.int (zI σ b3 n4))] [] σ (KK g C S 115 99 [some (.ref r0), some (.int x1), some (.int x2), some (.int x3), some (.int x4), some (.int x5), some (.int x6), some (.int x7), some (.int x8)] [] Q false))))))) :
    WP g C S 115 76 [some (.ref r0), some (.int x1), some (.int x2), some (.int x3), some (.int x4), some (.int x5), some (.int x6), some (.int x7), some (.int x8)] [] σ Q := by
  refine r_g (pc' := 78) (ls' := [some (.ref r0), some (.int x1), some (.int x2), some (.int x3), some (.int x4), some (.int x5), some (.int x6), some (.int x7), some (.int x8)]) (st' := [.int x8]) dX7_putWords_76 (fun _ => rfl) ?_
  refine r_g (pc' := 79) (ls' := [some (.ref r0), some (.int x1), some (.int x2), some (.int x3), some (.int x4), some (.int x5), some (.int x6), some (.int x7), some (.int x8)]) (st' := [.ref r0, .int x8]) dX7_putWords_78 (fun _ => rfl) ?_
  obtain ⟨hK, b1, hP, h⟩ := h
  refine r_getP dX7_putWords_79 rfl (by decide) rfl hK hP ?_
  refine r_g (pc' := 84) (ls' := [some (.ref r0), some (.int x1), some (.int x2), some (.int x3), some (.int x4), some (.int x5), some (.int x6), some (.int x7), some (.int x8)]) (st' := [.int x7, .ref b1, .int x8]) dX7_putWords_82 (fun _ => rfl) ?_
  obtain ⟨n2, hj, hn, hK, hL, h⟩ := h
  refine r_iald dX7_putWords_84 hj hn hK hL ?_
  obtain ⟨h1, h2⟩ := h
  refine r_icmp (t := 105) dX7_putWords_85 (by decide) c_ge (fun c => ?_) (fun c => ?_)
  · have h := h1 c
    exact h
  · have h := h2 c
    refine r_g (pc' := 89) (ls' := [some (.ref r0), some (.int x1), some (.int x2), some (.int x3), some (.int x4), some (.int x5), some (.int x6), some (.int x7), some (.int x8)]) (st' := [.ref r0]) dX7_putWords_88 (fun _ => rfl) ?_
    refine r_g (pc' := 90) (ls' := [some (.ref r0), some (.int x1), some (.int x2), some (.int x3), some (.int x4), some (.int x5), some (.int x6), some (.int x7), some (.int x8)]) (st' := [.ref r0, .ref r0]) dX7_putWords_89 (fun _ => rfl) ?_
    obtain ⟨hK, b3, hP, h⟩ := h
    refine r_getP dX7_putWords_90 rfl (by decide) rfl hK hP ?_
    refine r_g (pc' := 95) (ls' := [some (.ref r0), some (.int x1), some (.int x2), some (.int x3), some (.int x4), some (.int x5), some (.int x6), some (.int x7), some (.int x8)]) (st' := [.int x8, .ref b3, .ref r0]) dX7_putWords_93 (fun _ => rfl) ?_
    obtain ⟨n4, hj, hn, hK, hL, h⟩ := h
    refine r_iald dX7_putWords_95 hj hn hK hL ?_
    obtain ⟨hK, h⟩ := h
    exact r_call (th := false) dX7_putWords_96 (fun _ => ex_calV rfl (by decide)) rfl (Nat.le_of_ble_eq_true rfl) (Nat.le_of_ble_eq_true rfl) (Nat.le_of_ble_eq_true rfl) (rcv0 rfl rfl (by decide) hK) rfl rfl rfl (fun q => nomatch q) h
theorem b115_99 {g : Nat → Nat} {C S : Nat} {σ : PS} {Q : Rs → PS → Prop} {r0 : Nat} {x1 : Int32} {x2 : Int32} {x3 : Int32} {x4 : Int32} {x5 : Int32} {x6 : Int32} {x7 : Int32} {x8 : Int32}
    (h : WP g C S 115 76 [some (.ref r0), some (.int x1), some (.int x2), some (.int x3), some (.int x4), some (.int x5), some (.int x6), some (.int x7), some (.int (x8 + 1))] [] σ Q) :
    WP g C S 115 99 [some (.ref r0), some (.int x1), some (.int x2), some (.int x3), some (.int x4), some (.int x5), some (.int x6), some (.int x7), some (.int x8)] [] σ Q := by
  refine r_inc (v := 1) (ls' := [some (.ref r0), some (.int x1), some (.int x2), some (.int x3), some (.int x4), some (.int x5), some (.int x6), some (.int x7), some (.int (x8 + 1))]) dX7_putWords_99 rfl (Nat.le_of_ble_eq_true rfl) (by decide) rfl ?_
  refine r_goto (t := 76) dX7_putWords_102 (by decide) ?_
  exact h
theorem b115_105 {g : Nat → Nat} {C S : Nat} {σ : PS} {Q : Rs → PS → Prop} {r0 : Nat} {x1 : Int32} {x2 : Int32} {x3 : Int32} {x4 : Int32} {x5 : Int32} {x6 : Int32} {x7 : Int32} {l8 : Option Value}
    (h : WP g C S 115 15 [some (.ref r0), some (.int x1), some (.int x2), some (.int x3), some (.int x4), some (.int x5), some (.int x6), some (.int (x7 + 1)), l8] [] σ Q) :
    WP g C S 115 105 [some (.ref r0), some (.int x1), some (.int x2), some (.int x3), some (.int x4), some (.int x5), some (.int x6), some (.int x7), l8] [] σ Q := by
  refine r_inc (v := 1) (ls' := [some (.ref r0), some (.int x1), some (.int x2), some (.int x3), some (.int x4), some (.int x5), some (.int x6), some (.int (x7 + 1)), l8]) dX7_putWords_105 rfl (Nat.le_of_ble_eq_true rfl) (by decide) rfl ?_
  refine r_goto (t := 15) dX7_putWords_108 (by decide) ?_
  exact h
theorem b115_136 {g : Nat → Nat} {C S : Nat} {σ : PS} {Q : Rs → PS → Prop} {l0 : Option Value} {l1 : Option Value} {l2 : Option Value} {l3 : Option Value} {l4 : Option Value} {l5 : Option Value} {l6 : Option Value} {l7 : Option Value} {l8 : Option Value} {u0 : Int32} {w1 : Nat}
    (h : zK σ w1 = 9 ∧ (∀ τ1, τ1 = stI σ w1 21 u0 → Q (Sum.inl none) τ1)) :
    WP g C S 115 136 [l0, l1, l2, l3, l4, l5, l6, l7, l8] [.int u0, .ref w1] σ Q := by
  obtain ⟨hK, h⟩ := h
  refine r_putI dX7_putWords_136 rfl (by decide) (Or.inl rfl) rfl (Or.inl rfl) hK ?_
  generalize eτ1 : stI σ w1 21 u0 = τ1
  replace h := h _ eτ1.symm
  exact r_vret dX7_putWords_139 rfl h
