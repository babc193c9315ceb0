section Jdk
variable {g : Nat → Nat} {C S : Nat} {σ : PS} {Q : Rs → PS → Prop}
theorem p171 {x0 x1 : Int32} {l2 : Option Value} (h0 : ¬ x0 < 0) (h1 : x0 < x1) (h : Q (Sum.inl (some (.int x0))) σ) : WP g C S 171 0 [some (.int x0), some (.int x1), l2] [] σ Q := by
  refine r_g (pc' := 1) (ls' := [some (.int x0), some (.int x1), l2]) (st' := [.int x0]) dJ3_checkIndex_8e157_0 (fun _ => rfl) ?_
  refine r_if (t := 9) dJ3_checkIndex_8e157_1 (by decide) c_lt (fun c => absurd c h0) (fun c => ?_)
  refine r_g (pc' := 5) (ls' := [some (.int x0), some (.int x1), l2]) (st' := [.int x0]) dJ3_checkIndex_8e157_4 (fun _ => rfl) ?_
  refine r_g (pc' := 6) (ls' := [some (.int x0), some (.int x1), l2]) (st' := [.int x1, .int x0]) dJ3_checkIndex_8e157_5 (fun _ => rfl) ?_
  refine r_icmp (t := 16) dJ3_checkIndex_8e157_6 (by decide) c_lt (fun c => ?_) (fun c => absurd h1 c)
  refine r_g (pc' := 17) (ls' := [some (.int x0), some (.int x1), l2]) (st' := [.int x0]) dJ3_checkIndex_8e157_16 (fun _ => rfl) ?_
  exact r_ret dJ3_checkIndex_8e157_17 rfl h
theorem p169 {x0 x1 : Int32} (h0 : ¬ x0 < 0) (h1 : x0 < x1) (h : Q (Sum.inl (some (.int x0))) σ) : WP g C S 169 0 [some (.int x0), some (.int x1)] [] σ Q :=
  b169_0 (p171 h0 h1 (b169_6 h))
theorem p154 {x0 x1 : Int32} (h0 : ¬ x0 < 0) (h1 : x0 < x1) (h : Q (Sum.inl none) σ) : WP g C S 154 0 [some (.int x0), some (.int x1)] [] σ Q :=
  b154_0 ⟨fun _ => p171 h0 h1 (b154_8 h), fun _ => p171 h0 h1 (b154_8 h)⟩
theorem p162 {a b r n : Nat} (hK : zK σ a = 1) (hb : zP σ a 1 = some b) (hbK : zK σ b = 104) (hn : n < zL σ b) (hn2 : n < 2147483648) (hr : zP σ b n = some r) (h : Q (Sum.inl (some (.ref r))) σ) : WP g C S 162 0 [some (.ref a), some (.int (nI n))] [] σ Q :=
  b162_0 ⟨hK, b, hb, n, rfl, hn2, Or.inr hbK, hn, r, hr, h⟩
theorem p170 {n : Nat} (hn : 1 ≤ n ∧ n ≤ 64) (h : ∀ m : Nat, n < m → m ≤ 96 → Q (Sum.inl (some (.int (nI m)))) σ) : WP g C S 170 0 [some (.int (nI n)), some (.int (iI 1)), some (.int (nI (n / 2))), none] [] σ Q := by
  have e : nI n + (if iI 1 < nI (n / 2) then nI (n / 2) else iI 1) = nI (n + (if 1 < n / 2 then n / 2 else 1)) := by
    have hi : iI 1 < nI (n / 2) ↔ 1 < n / 2 := by
      rw [iI_nat (n / 2), iI_lt (by omega) (by omega)]
      omega
    by_cases q : 1 < n / 2
    · rw [if_pos (hi.mpr q), if_pos q, iI_nat, iI_nat, iI_add, iI_nat]
      rfl
    · rw [if_neg (fun r => q (hi.mp r)), if_neg q, iI_nat, iI_add, iI_nat]
      rfl
  have hm : n < n + (if 1 < n / 2 then n / 2 else 1) ∧ n + (if 1 < n / 2 then n / 2 else 1) ≤ 96 := by
    split <;> omega
  generalize n + (if 1 < n / 2 then n / 2 else 1) = m at e hm
  refine b170_0 ⟨fun q => absurd q ?_, fun _ => ⟨fun q => absurd q ?_, fun _ => ?_⟩⟩
  · rw [e, iI_nat, iI_0, iI_le (by omega) (by omega)]
    omega
  · rw [e, iI_nat, show (2147483639 : Int32) = iI 2147483639 from by decide, iI_lt (by omega) (by omega)]
    omega
  · rw [e]
    exact h m hm.1 hm.2
/-- Arrays.copyOf -/
theorem p167 {b n m : Nat} (hK : zK σ b = 104) (hbN : b < zN σ) (hL : zL σ b = n) (hm : n < m) (hm2 : m ≤ 96) (hN : zN σ + 1 ≤ C) (hS : zS σ + m ≤ S) (hz : zOK σ) (hok : ∀ i, i < n → okP σ (zP σ b i) = true) (h : ∀ τ, τ = cpP (alA σ 104 m) b 0 (zN σ) 0 n → Q (Sum.inl (some (.ref (zN σ)))) τ) : WP g C S 167 0 [some (.ref b), some (.int (nI m))] [] σ Q := by
  have hne : ¬ b = zN σ := by omega
  refine b167_0 ⟨hK, b168_0 ⟨fun q => absurd rfl q, fun _ => ⟨m, rfl, by omega, hN, hS, fun τ2 e2 => ?_⟩⟩⟩
  have k1 : zK τ2 b = 104 := by subst e2; rw [zK_alA, if_neg hne]; exact hK
  have k2 : zL τ2 b = n := by subst e2; rw [zL_alA, if_neg hne]; exact hL
  have k3 : zK τ2 (zN σ) = 104 := by subst e2; rw [zK_alA, if_pos rfl]
  have k4 : zL τ2 (zN σ) = m := by subst e2; rw [zL_alA, if_pos rfl]
  refine ⟨by omega, n, 0, 0, ?_, rfl, rfl, by omega, by omega, by omega, hne, k1, k3, fun i hi => ?_, fun τ6 e6 => b167_9 (h τ6 ?_)⟩
  · rw [k2, if_neg (fun q => by rw [iI_nat, iI_nat, iI_lt (by omega) (by omega)] at q; omega)]
  · have e : zP τ2 b (0 + i) = zP σ b i := by subst e2; rw [zP_alA, if_neg hne, Nat.zero_add]
    rw [e]
    have := hok i hi
    cases hp : zP σ b i with
    | none => rfl
    | some y =>
      rw [hp] at this
      have h1 : 1 ≤ zK σ y ∧ zK σ y ≤ 9 := by simpa [okP] using this
      have h2 : ¬ y = zN σ := fun q => by rw [q, hz _ (Nat.le_refl _)] at h1; omega
      have h3 : zK τ2 y = zK σ y := by subst e2; rw [zK_alA, if_neg h2]
      simp [okP, h3, h1]
  · rw [e6, e2]
/-- ArrayList.grow() of a full list -/
theorem p160 {a b n : Nat} (hK : zK σ a = 1) (haN : a < zN σ) (hb : zP σ a 1 = some b) (hI : zI σ a 2 = nI n) (hL : zL σ b = n) (hn : n < 64) (hbk : (b = g 1 ∧ n = 0 ∧ zK σ b = 1003) ∨ (zK σ b = 104 ∧ 1 ≤ n ∧ b < zN σ)) (hok : ∀ i, i < n → okP σ (zP σ b i) = true) (hN : zN σ + 1 ≤ C) (hS : zS σ + 96 ≤ S) (hz : zOK σ)
    (h : ∀ τ, (zN τ = zN σ + 1 ∧ zS τ ≤ zS σ + 96) → (∀ y, ¬ y = zN σ → zK τ y = zK σ y ∧ zL τ y = zL σ y ∧ zI τ y = zI σ y) → (∀ y j, ¬ y = zN σ → ¬ (y = a ∧ j = 1) → zP τ y j = zP σ y j) → zP τ a 1 = some (zN σ) → zK τ (zN σ) = 104 → (n < zL τ (zN σ) ∧ zL τ (zN σ) ≤ 96) → (∀ i, i < n → zP τ (zN σ) i = zP σ b i) → zOK τ → Q (Sum.inl (some (.ref (zN σ)))) τ) : WP g C S 160 0 [some (.ref a)] [] σ Q := by
  have han : ¬ a = zN σ := by omega
  refine b160_0 ⟨hK, hK, ?_⟩
  rw [hI]
  rcases hbk with ⟨q1, q2, q3⟩ | ⟨q1, q2, q3⟩
  · subst q2
    refine b159_0 ⟨hK, b, hb, by omega, fun q => absurd q ?_, fun _ => ⟨hK, b, hb, fun _ => ⟨10, ?_, by omega, hN, by omega, fun τ4 e4 => ⟨?_, fun τ5 e5 => ?_⟩⟩, fun q => absurd q1 q⟩⟩
    · rw [hL]; decide
    · decide
    · subst e4; rw [zK_alA, if_neg han]; exact hK
    · refine b160_10 (h τ5 ⟨by subst e5 e4; rfl, by subst e5 e4; rw [zS_stP, zS_alA]; omega⟩ (fun y hy => ?_) (fun y j hy hj => ?_) ?_ ?_ ?_ (fun i hi => absurd hi (Nat.not_lt_zero _)) ?_)
      · subst e5 e4
        exact ⟨by rw [zK_stP, zK_alA, if_neg hy], by rw [zL_stP, zL_alA, if_neg hy], by rw [zI_stP]; exact funext fun j => by rw [zI_alA, if_neg hy]⟩
      · subst e5 e4; rw [zP_stP, if_neg hj, zP_alA, if_neg hy]
      · subst e5; rw [zP_stP, if_pos ⟨rfl, rfl⟩]
      · subst e5 e4; rw [zK_stP, zK_alA, if_pos rfl]
      · subst e5 e4; rw [zL_stP, zL_alA, if_pos rfl]; omega
      · subst e5 e4; exact zOK_stP (zOK_alA hz)
  · have hbn : ¬ b = zN σ := by omega
    have hba : ¬ a = b := fun q => by rw [q] at hK; omega
    refine b159_0 ⟨hK, b, hb, by omega, fun _ => b159_20 ?_, fun q => absurd ?_ q⟩
    · rw [hL]
      have e1 : nI n + 1 - nI n = iI 1 := by rw [iI_nat, show (1 : Int32) = iI 1 from rfl, iI_add, iI_sub]; congr 1; omega
      have e2 : nI n >>> ((1 : Int32) &&& 31) = nI (n / 2) := pk_shrN (by omega) _ 1 (by decide)
      rw [e1, e2]
      refine p170 (by omega) (fun m hm1 hm2 => b159_30 ⟨hK, b, hb, p167 q1 q3 hL hm1 hm2 hN (by omega) hz hok (fun τ3 e3 => b159_40 ⟨?_, fun τ4 e4 => b160_10 (h τ4 ⟨by subst e4 e3; rfl, by subst e4 e3; rw [zS_stP, zS_cpP, zS_alA]; omega⟩ (fun y hy => ?_) (fun y j hy hj => ?_) ?_ ?_ ?_ (fun i hi => ?_) ?_)⟩)⟩)
      · subst e3; rw [zK_cpP, zK_alA, if_neg han]; exact hK
      · subst e4 e3
        exact ⟨by rw [zK_stP, zK_cpP, zK_alA, if_neg hy], by rw [zL_stP, zL_cpP, zL_alA, if_neg hy], by rw [zI_stP, zI_cpP]; exact funext fun j => by rw [zI_alA, if_neg hy]⟩
      · subst e4 e3; rw [zP_stP, if_neg hj, zP_cpP, if_neg hy, zP_alA, if_neg hy]
      · subst e4; rw [zP_stP, if_pos ⟨rfl, rfl⟩]
      · subst e4 e3; rw [zK_stP, zK_cpP, zK_alA, if_pos rfl]
      · subst e4 e3; rw [zL_stP, zL_cpP, zL_alA, if_pos rfl]; omega
      · subst e4 e3
        rw [zP_stP, if_neg (fun q => han q.1.symm), zP_cpP, if_pos rfl]
        unfold va_cpy
        rw [if_pos ⟨Nat.zero_le _, by omega⟩, zP_alA, if_neg hbn, Nat.zero_add, Nat.sub_zero]
      · subst e4 e3; exact zOK_stP (zOK_cpP (zOK_alA hz))
    · rw [hL, iI_nat, iI_0, iI_lt (by omega) (by omega)]
      omega
end Jdk
