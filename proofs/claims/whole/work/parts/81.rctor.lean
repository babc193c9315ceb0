/-! THE REFERENCE'S CONSTRUCTOR -/
def jL : List Nat := [2, 3, 4, 5, 6, 7, 10, 13, 14, 15, 16, 17, 18, 19, 20, 22, 26, 27, 28, 29, 30, 31, 33, 34, 36]
def ixj : Nat → Nat
  | 2 => 0
  | 3 => 1
  | 4 => 2
  | 5 => 3
  | 6 => 4
  | 7 => 5
  | 10 => 6
  | 13 => 7
  | 14 => 8
  | 15 => 9
  | 16 => 10
  | 17 => 11
  | 18 => 12
  | 19 => 13
  | 20 => 14
  | 22 => 15
  | 26 => 16
  | 27 => 17
  | 28 => 18
  | 29 => 19
  | 30 => 20
  | 31 => 21
  | 33 => 22
  | 34 => 23
  | 36 => 24
  | _ => 99
def rsN (t : Nat) : Nat := ((jL.drop t).map rl).foldr (· + ·) 0
theorem rl_37 {j : Nat} (h : 0 < rl j) : j < 37 := by
  unfold rl at h
  split at h <;> omega
theorem ixj_inj' : ∀ j, j < 37 → ∀ j', j' < 37 → 0 < rl j → 0 < rl j' → ixj j = ixj j' → j = j' := by decide
theorem ixj_inj {j j' : Nat} (h : 0 < rl j) (h' : 0 < rl j') (e : ixj j = ixj j') : j = j' := ixj_inj' j (rl_37 h) j' (rl_37 h') h h' e
theorem ixj_lt' : ∀ j, j < 37 → 0 < rl j → ixj j < 25 := by decide
theorem ixj_lt {j : Nat} (h : 0 < rl j) : ixj j < 25 := ixj_lt' j (rl_37 h) h
def C91 (σ0 σ : PS) (m b t : Nat) : Prop := (zK σ m = 9 ∧ zN σ = b + t ∧ zS σ + rsN t = zS σ0 + rsN 0 ∧ m < b ∧ zI σ m = zI σ0 m) ∧ (∀ j, 0 < rl j → ixj j < t → zP σ m j = some (b + ixj j) ∧ zK σ (b + ixj j) = 101 ∧ zL σ (b + ixj j) = rl j ∧ ∀ n, zI σ (b + ixj j) n = 0) ∧ ∀ a, a < b → ¬ a = m → Sm σ0 σ a
theorem C91.s {σ0 σ : PS} {m b t j : Nat} (h : C91 σ0 σ m b t) (hj : 0 < rl j) (ht : ixj j = t) (hr : rsN t = rl j + rsN (t + 1)) : C91 σ0 (stP (alA σ 101 (rl j)) m j (some (zN σ))) m b (t + 1) := by
  obtain ⟨⟨h1, h2, h3, h4, h5⟩, h6, h7⟩ := h
  have nm : ¬ m = zN σ := by omega
  refine ⟨⟨?_, ?_, ?_, h4, ?_⟩, fun j' hj' hi => ?_, fun a ha hn => ?_⟩
  · show (if m = zN σ then 101 else zK σ m) = 9
    rw [if_neg nm]; exact h1
  · show zN σ + 1 = b + (t + 1)
    omega
  · show zS σ + rl j + rsN (t + 1) = _
    omega
  · show (fun i => if m = zN σ then 0 else zI σ m i) = _
    rw [← h5]
    funext i
    rw [if_neg nm]
  · show (if m = m ∧ j' = j then some (zN σ) else (if m = zN σ then none else zP σ m j')) = _ ∧ (if b + ixj j' = zN σ then 101 else zK σ (b + ixj j')) = 101 ∧ (if b + ixj j' = zN σ then rl j else zL σ (b + ixj j')) = rl j' ∧ ∀ n, (if b + ixj j' = zN σ then 0 else zI σ (b + ixj j') n) = 0
    by_cases q : j' = j
    · have e : b + ixj j' = zN σ := by rw [q]; omega
      rw [if_pos ⟨rfl, q⟩, if_pos e, if_pos e]
      exact ⟨by rw [e], rfl, by rw [q], fun n => if_pos e⟩
    · have hi2 : ixj j' < t := by
        have : ¬ ixj j' = t := fun e => q (ixj_inj hj' hj (e.trans ht.symm))
        omega
      have e : ¬ b + ixj j' = zN σ := by omega
      rw [if_neg (fun s => q s.2), if_neg nm, if_neg e, if_neg e]
      obtain ⟨q1, q2, q3, q4⟩ := h6 j' hj' hi2
      exact ⟨q1, q2, q3, fun n => by rw [if_neg e]; exact q4 n⟩
  · have e : ¬ a = zN σ := by omega
    refine (h7 a ha hn).trans ⟨if_neg e, if_neg e, ?_, ?_⟩
    · show (fun i => if a = zN σ then 0 else zI σ a i) = _
      funext i; rw [if_neg e]
    · show (fun i => if a = m ∧ i = j then some (zN σ) else (if a = zN σ then none else zP σ a i)) = _
      funext i; rw [if_neg (fun s => hn s.1), if_neg e]
section Ctor91
variable {g : Nat → Nat} {C S m : Nat} {Q : Rs → PS → Prop} {σ0 : PS}
theorem m91_s {σ : PS} {b t pc p1 p2 i j : Nat} (h : C91 σ0 σ m b t) (hC : b + 25 ≤ C) (hS : zS σ0 + rsN 0 ≤ S) (h0 : decode (mB 91) pc = .ok (.aload_n 0, 1)) (hc : ∀ (σ : PS) (st : List Value), WP g C S 91 p1 [some (.ref m)] (.int (nI (rl j)) :: st) σ Q → WP g C S 91 (pc + 1) [some (.ref m)] st σ Q) (h2 : decode (mB 91) p1 = .ok (.newarray .int, 2)) (h3 : decode (mB 91) (p1 + 2) = .ok (.putfield i, 3)) (hf : fR (mO 91) i = some (8, j)) (hF : fF 8 j = false ∨ (mI 91 = true ∧ mO 91 = 8)) (hb : fB 8 j = true) (hj : 0 < rl j) (hl : rl j ≤ 100000) (ht : ixj j = t) (ht25 : t < 25) (hr : rsN t = rl j + rsN (t + 1)) (e2 : p1 + 5 = p2) (t0 : tR 91 pc = none) (t2 : tR 91 p1 = none) (t3 : tR 91 (p1 + 2) = none) (hn : ∀ σ', C91 σ0 σ' m b (t + 1) → WP g C S 91 p2 [some (.ref m)] [] σ' Q) : WP g C S 91 pc [some (.ref m)] [] σ Q := by
  have hst := h.s hj ht hr
  obtain ⟨⟨h1, h2', h3', h4, h5⟩, -⟩ := h
  refine r_g (pc' := pc + 1) (ls' := [some (.ref m)]) (st' := [.ref m]) h0 (fun _ => rfl) ?_ rfl t0
  refine hc σ _ ?_
  refine r_newI h2 rfl hl (by omega) (by omega) ?_ t2
  refine r_putP h3 hf (by decide) hF hb ?_ ?_ t3
  · show (if m = zN σ then 101 else zK σ m) = 9
    rw [if_neg (by omega)]; exact h1
  · rw [show p1 + 2 + 3 = p2 by omega]
    exact hn _ hst
theorem m91 {b : Nat} {σ : PS} (h : C91 σ0 σ m b 0) (hC : b + 25 ≤ C) (hS : zS σ0 + rsN 0 ≤ S) (hQ : ∀ τ, C91 σ0 τ m b 25 → Q (Sum.inl none) τ) : WP g C S 91 0 [some (.ref m)] [] σ Q := by
  refine r_g (pc' := 1) (ls' := [some (.ref m)]) (st' := [.ref m]) dX7_init_0 (fun _ => rfl) ?_
  refine r_oi dX7_init_1 rfl ⟨Nat.le_of_ble_eq_true rfl, Nat.le_of_ble_eq_true rfl, Nat.le_of_ble_eq_true rfl⟩ ?_
  refine m91_s (j := 2) (p1 := 7) (p2 := 12) h hC hS dX7_init_4 (fun _ _ h => r_bi dX7_init_5 rfl h) dX7_init_7 dX7_init_9 rfl (by decide) rfl (by decide) (by decide) rfl (by decide) (by decide) rfl rfl rfl rfl (fun _ h1 => ?_)
  refine m91_s (j := 3) (p1 := 15) (p2 := 20) h1 hC hS dX7_init_12 (fun _ _ h => r_bi dX7_init_13 rfl h) dX7_init_15 dX7_init_17 rfl (by decide) rfl (by decide) (by decide) rfl (by decide) (by decide) rfl rfl rfl rfl (fun _ h2 => ?_)
  refine m91_s (j := 4) (p1 := 24) (p2 := 29) h2 hC hS dX7_init_20 (fun _ _ h => r_si dX7_init_21 rfl h) dX7_init_24 dX7_init_26 rfl (by decide) rfl (by decide) (by decide) rfl (by decide) (by decide) rfl rfl rfl rfl (fun _ h3 => ?_)
  refine m91_s (j := 5) (p1 := 33) (p2 := 38) h3 hC hS dX7_init_29 (fun _ _ h => r_si dX7_init_30 rfl h) dX7_init_33 dX7_init_35 rfl (by decide) rfl (by decide) (by decide) rfl (by decide) (by decide) rfl rfl rfl rfl (fun _ h4 => ?_)
  refine m91_s (j := 6) (p1 := 42) (p2 := 47) h4 hC hS dX7_init_38 (fun _ _ h => r_si dX7_init_39 rfl h) dX7_init_42 dX7_init_44 rfl (by decide) rfl (by decide) (by decide) rfl (by decide) (by decide) rfl rfl rfl rfl (fun _ h5 => ?_)
  refine m91_s (j := 7) (p1 := 50) (p2 := 55) h5 hC hS dX7_init_47 (fun _ _ h => r_bi dX7_init_48 rfl h) dX7_init_50 dX7_init_52 rfl (by decide) rfl (by decide) (by decide) rfl (by decide) (by decide) rfl rfl rfl rfl (fun _ h6 => ?_)
  refine m91_s (j := 10) (p1 := 58) (p2 := 63) h6 hC hS dX7_init_55 (fun _ _ h => r_bi dX7_init_56 rfl h) dX7_init_58 dX7_init_60 rfl (by decide) rfl (by decide) (by decide) rfl (by decide) (by decide) rfl rfl rfl rfl (fun _ h7 => ?_)
  refine m91_s (j := 13) (p1 := 67) (p2 := 72) h7 hC hS dX7_init_63 (fun _ _ h => r_si dX7_init_64 rfl h) dX7_init_67 dX7_init_69 rfl (by decide) rfl (by decide) (by decide) rfl (by decide) (by decide) rfl rfl rfl rfl (fun _ h8 => ?_)
  refine m91_s (j := 14) (p1 := 74) (p2 := 79) h8 hC hS dX7_init_72 (fun _ _ h => r_ic dX7_init_73 rfl h) dX7_init_74 dX7_init_76 rfl (by decide) rfl (by decide) (by decide) rfl (by decide) (by decide) rfl rfl rfl rfl (fun _ h9 => ?_)
  refine m91_s (j := 15) (p1 := 83) (p2 := 88) h9 hC hS dX7_init_79 (fun _ _ h => r_si dX7_init_80 rfl h) dX7_init_83 dX7_init_85 rfl (by decide) rfl (by decide) (by decide) rfl (by decide) (by decide) rfl rfl rfl rfl (fun _ h10 => ?_)
  refine m91_s (j := 16) (p1 := 92) (p2 := 97) h10 hC hS dX7_init_88 (fun _ _ h => r_si dX7_init_89 rfl h) dX7_init_92 dX7_init_94 rfl (by decide) rfl (by decide) (by decide) rfl (by decide) (by decide) rfl rfl rfl rfl (fun _ h11 => ?_)
  refine m91_s (j := 17) (p1 := 101) (p2 := 106) h11 hC hS dX7_init_97 (fun _ _ h => r_si dX7_init_98 rfl h) dX7_init_101 dX7_init_103 rfl (by decide) rfl (by decide) (by decide) rfl (by decide) (by decide) rfl rfl rfl rfl (fun _ h12 => ?_)
  refine m91_s (j := 18) (p1 := 110) (p2 := 115) h12 hC hS dX7_init_106 (fun _ _ h => r_si dX7_init_107 rfl h) dX7_init_110 dX7_init_112 rfl (by decide) rfl (by decide) (by decide) rfl (by decide) (by decide) rfl rfl rfl rfl (fun _ h13 => ?_)
  refine m91_s (j := 19) (p1 := 117) (p2 := 122) h13 hC hS dX7_init_115 (fun _ _ h => r_ic dX7_init_116 rfl h) dX7_init_117 dX7_init_119 rfl (by decide) rfl (by decide) (by decide) rfl (by decide) (by decide) rfl rfl rfl rfl (fun _ h14 => ?_)
  refine m91_s (j := 20) (p1 := 126) (p2 := 131) h14 hC hS dX7_init_122 (fun _ _ h => r_si dX7_init_123 rfl h) dX7_init_126 dX7_init_128 rfl (by decide) rfl (by decide) (by decide) rfl (by decide) (by decide) rfl rfl rfl rfl (fun _ h15 => ?_)
  refine m91_s (j := 22) (p1 := 135) (p2 := 140) h15 hC hS dX7_init_131 (fun _ _ h => r_si dX7_init_132 rfl h) dX7_init_135 dX7_init_137 rfl (by decide) rfl (by decide) (by decide) rfl (by decide) (by decide) rfl rfl rfl rfl (fun _ h16 => ?_)
  refine m91_s (j := 26) (p1 := 143) (p2 := 148) h16 hC hS dX7_init_140 (fun _ _ h => r_bi dX7_init_141 rfl h) dX7_init_143 dX7_init_145 rfl (by decide) rfl (by decide) (by decide) rfl (by decide) (by decide) rfl rfl rfl rfl (fun _ h17 => ?_)
  refine m91_s (j := 27) (p1 := 151) (p2 := 156) h17 hC hS dX7_init_148 (fun _ _ h => r_bi dX7_init_149 rfl h) dX7_init_151 dX7_init_153 rfl (by decide) rfl (by decide) (by decide) rfl (by decide) (by decide) rfl rfl rfl rfl (fun _ h18 => ?_)
  refine m91_s (j := 28) (p1 := 159) (p2 := 164) h18 hC hS dX7_init_156 (fun _ _ h => r_bi dX7_init_157 rfl h) dX7_init_159 dX7_init_161 rfl (by decide) rfl (by decide) (by decide) rfl (by decide) (by decide) rfl rfl rfl rfl (fun _ h19 => ?_)
  refine m91_s (j := 29) (p1 := 168) (p2 := 173) h19 hC hS dX7_init_164 (fun _ _ h => r_si dX7_init_165 rfl h) dX7_init_168 dX7_init_170 rfl (by decide) rfl (by decide) (by decide) rfl (by decide) (by decide) rfl rfl rfl rfl (fun _ h20 => ?_)
  refine m91_s (j := 30) (p1 := 176) (p2 := 181) h20 hC hS dX7_init_173 (fun _ _ h => r_bi dX7_init_174 rfl h) dX7_init_176 dX7_init_178 rfl (by decide) rfl (by decide) (by decide) rfl (by decide) (by decide) rfl rfl rfl rfl (fun _ h21 => ?_)
  refine m91_s (j := 31) (p1 := 185) (p2 := 190) h21 hC hS dX7_init_181 (fun _ _ h => r_si dX7_init_182 rfl h) dX7_init_185 dX7_init_187 rfl (by decide) rfl (by decide) (by decide) rfl (by decide) (by decide) rfl rfl rfl rfl (fun _ h22 => ?_)
  refine m91_s (j := 33) (p1 := 193) (p2 := 198) h22 hC hS dX7_init_190 (fun _ _ h => r_bi dX7_init_191 rfl h) dX7_init_193 dX7_init_195 rfl (by decide) rfl (by decide) (by decide) rfl (by decide) (by decide) rfl rfl rfl rfl (fun _ h23 => ?_)
  refine m91_s (j := 34) (p1 := 201) (p2 := 206) h23 hC hS dX7_init_198 (fun _ _ h => r_bi dX7_init_199 rfl h) dX7_init_201 dX7_init_203 rfl (by decide) rfl (by decide) (by decide) rfl (by decide) (by decide) rfl rfl rfl rfl (fun _ h24 => ?_)
  refine m91_s (j := 36) (p1 := 210) (p2 := 215) h24 hC hS dX7_init_206 (fun _ _ h => r_si dX7_init_207 rfl h) dX7_init_210 dX7_init_212 rfl (by decide) rfl (by decide) (by decide) rfl (by decide) (by decide) rfl rfl rfl rfl (fun _ h25 => ?_)
  exact r_vret dX7_init_215 rfl (hQ _ h25)
theorem st0_MI : MI (fun _ _ => 0) st0 := by
  refine ⟨SK_st0, ⟨rfl, fun e he => absurd he (Nat.not_lt_zero _), fun e _ => ⟨rfl, fun i hi => absurd hi (Nat.not_lt_zero _), fun f _ => ⟨rfl, fun i hi => absurd hi (Nat.not_lt_zero _)⟩⟩⟩, ⟨rfl, Nat.zero_le _, fun i hi => absurd hi (Nat.not_lt_zero _)⟩, ⟨rfl, rfl, rfl⟩, ⟨⟨rfl, Nat.zero_le _, fun i hi => absurd hi (Nat.not_lt_zero _)⟩, fun i hi => absurd hi (Nat.not_lt_zero _), ?_, rfl⟩, rfl, ?_⟩
  · unfold Lks
    first
      | exact ⟨rfl, fun i hi => absurd hi (Nat.not_lt_zero _)⟩
      | exact ⟨rfl, Nat.zero_le _, fun i hi => absurd hi (Nat.not_lt_zero _)⟩
  · exact fun i hi => absurd hi (Nat.not_lt_zero _)
/-- the reference, new -/
theorem C91.ri {τ : PS} {b : Nat} (h : C91 σ0 τ m b 25) (hz : ∀ j, rl j = 0 → zI σ0 m j = 0) : RI m (fun j => b + ixj j) τ (fun _ _ => 0) := by
  obtain ⟨⟨h1, h2, h3, h4, h5⟩, h6, h7⟩ := h
  refine ⟨⟨h1, fun j hj => by rw [h5, hz j hj]; rfl⟩, fun j hj => ?_, fun j j' hj hj' e => ixj_inj hj hj' (by have e : b + ixj j = b + ixj j' := e; omega)⟩
  obtain ⟨q1, q2, q3, q4⟩ := h6 j hj (ixj_lt hj)
  exact ⟨q1, q2, q3, fun n _ => by rw [q4]; rfl⟩
end Ctor91
