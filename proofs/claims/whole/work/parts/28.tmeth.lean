theorem pot_upd {σ τ : PS} {a : Nat} (ha : a < zN σ) (hN : zN τ = zN σ + 1) (h : ∀ x, x < zN σ → ¬ x = a → crd τ x = crd σ x) (h0 : crd τ (zN σ) = 0) : pot τ + crd σ a = pot σ + crd τ a := by
  unfold pot
  rw [hN]
  show sumN _ _ + _ + _ = _
  rw [h0]
  have := sumN_upd (f := crd σ) (f' := crd τ) ha h
  omega
theorem pot_upd0 {σ τ : PS} {a : Nat} (ha : a < zN σ) (hN : zN τ = zN σ) (h : ∀ x, x < zN σ → ¬ x = a → crd τ x = crd σ x) : pot τ + crd σ a = pot σ + crd τ a := by
  unfold pot
  rw [hN]
  exact sumN_upd (f := crd σ) (f' := crd τ) ha h
section TMeth
variable {g : Nat → Nat} {B : Nat} {O : Nat → Prop} {σ τ : PS} {c : CS} {a b : Nat} {Q : Rs → CS → Prop}
theorem t53 (hk : yK c a = 7) (h : Q (Sum.inl none) (wT c a [])) : CW g B O 53 0 [some (.ref a)] [] c Q := by
  intro hB σ hC
  refine WP.ok (fun hz => ?_)
  obtain ⟨b, hb, -⟩ := hC.2.2.2.1 a hk
  refine b53_0 ⟨hC.kind hk (by omega), fun τ e => ?_⟩
  have := CI_textI (l := []) (τ := τ) hC hz hk hb (by subst e; exact ⟨rfl, rfl, rfl, rfl, rfl⟩) (fun x q1 q2 => by subst e; exact funext fun i => by rw [zI_stI, if_neg (fun q => q1 q.1)]) (Nat.zero_le _) (by subst e; rw [zI_stI, if_pos ⟨rfl, rfl⟩]; rfl) (fun i hi => absurd hi (Nat.not_lt_zero _))
  exact ⟨wT c a _, hB, this.1, this.2, h⟩
theorem t54 (hk : yK c a = 7) (h : Q (Sum.inl (some (.int (iI (yT c a).length)))) c) : CW g B O 54 0 [some (.ref a)] [] c Q := by
  intro hB σ hC
  obtain ⟨b, hb, -, -, h1, -⟩ := hC.2.2.2.1 a hk
  refine b54_0 ⟨hC.kind hk (by omega), ?_⟩
  rw [h1]
  exact ⟨c, hB, hC, CF.rfl, h⟩
theorem len_R {σ : PS} (hC : CI g O σ c) (hk : yK c a = 7) : (yT c a).length ≤ 2048 := by
  obtain ⟨b, hb, -, ⟨q1, q2, q3⟩, -⟩ := hC.2.2.2.1 a hk
  omega
theorem t55 (hk : yK c a = 7) (h1 : yT c a = [] → Q (Sum.inl (some (.int (iI 1)))) c) (h2 : ¬ yT c a = [] → Q (Sum.inl (some (.int (iI 0)))) c) : CW g B O 55 0 [some (.ref a)] [] c Q := by
  intro hB σ hC
  have hl := len_R hC hk
  obtain ⟨b, hb, -, -, e, -⟩ := hC.2.2.2.1 a hk
  refine b55_0 ⟨hC.kind hk (by omega), fun q => b55_12 ⟨Or.inl rfl, c, hB, hC, CF.rfl, h2 (fun r => q ?_)⟩, fun q => b55_12 ⟨Or.inr rfl, c, hB, hC, CF.rfl, h1 ?_⟩⟩
  · rw [e, r]; rfl
  · rw [e] at q
    have q := Decidable.of_not_not q
    rw [iI_0, iI_eq (by omega) (by omega)] at q
    exact List.eq_nil_of_length_eq_zero (by omega)
/-- the character at a place, 0 outside -/
def sg (l : List Int) (i : Int) : Int := if 0 ≤ i then l.getD i.toNat 0 else 0
theorem t56 {x : Int} (hk : yK c a = 7) (hx : -2147483648 ≤ x ∧ x ≤ 2147483647) (h : Q (Sum.inl (some (.int (iI (sg (yT c a) x))))) c) : CW g B O 56 0 [some (.ref a), some (.int (iI x))] [] c Q := by
  intro hB σ hC
  have hl := len_R hC hk
  obtain ⟨b, hb, ⟨-, -, bK, -⟩, ⟨-, -, bl⟩, e, hc⟩ := hC.2.2.2.1 a hk
  have aK := hC.kind hk (by omega)
  refine b56_0 ⟨fun q => b56_21 (b56_22 ?_), fun q => ⟨aK, fun r => b56_21 (b56_22 ?_), fun r => ⟨aK, b, hb, x.toNat, ?_, by omega, bK, ?_, b56_22 ?_⟩⟩⟩
  · rw [iI_0, iI_lt hx (by omega)] at q
    have : sg (yT c a) x = 0 := by unfold sg; rw [if_neg (by omega)]
    rw [this] at h
    exact ⟨c, hB, hC, CF.rfl, h⟩
  · rw [iI_0, iI_lt hx (by omega)] at q
    rw [e, iI_le (by omega) hx] at r
    have : sg (yT c a) x = 0 := by
      unfold sg
      rw [if_pos (by omega), List.getD_eq_getElem?_getD, List.getElem?_eq_none (by omega)]
      rfl
    rw [this] at h
    exact ⟨c, hB, hC, CF.rfl, h⟩
  · rw [iI_0, iI_lt hx (by omega)] at q
    exact iI_tn (by omega)
  · rw [iI_0, iI_lt hx (by omega)] at q
    rw [e, iI_le (by omega) hx] at r
    omega
  · rw [iI_0, iI_lt hx (by omega)] at q
    rw [e, iI_le (by omega) hx] at r
    rw [(hc x.toNat (by omega)).1]
    have : sg (yT c a) x = (yT c a).getD x.toNat 0 := by unfold sg; rw [if_pos (by omega)]
    rw [this] at h
    exact ⟨c, hB, hC, CF.rfl, h⟩
theorem t57a {x : Int} {l2 : Option Value} (hB : yU c ≤ B) (hC : CI g O σ c) (hz : zOK σ) (hk : yK c a = 7) (hx : 0 ≤ x ∧ x ≤ 65535) (hb : zP σ a 0 = some b) (hl : (yT c a).length < zL σ b) {σ0 : PS} (hF : CF O σ0 σ) (h : Q (Sum.inl none) (wT c a (yT c a ++ [x]))) : WP g (B / 8) B 57 41 [some (.ref a), some (.int (iI x)), l2] [] σ (fun r τ => ∃ d, yU d ≤ B ∧ CI g O τ d ∧ CF O σ0 τ ∧ Q r d) := by
  obtain ⟨b', hb', ⟨-, -, bK, b0⟩, ⟨-, c2, c3⟩, e, hc⟩ := hC.2.2.2.1 a hk
  rw [hb] at hb'
  cases hb'
  have aK := hC.kind hk (by omega)
  have hab : ¬ a = b := fun q => by rw [q] at aK; omega
  refine b57_41 ⟨aK, b, hb, aK, (yT c a).length, by rw [e, iI_nat], by omega, bK, hl, fun τ3 e3 => ⟨by subst e3; exact aK, by subst e3; exact aK, fun τ4 e4 => ?_⟩⟩
  rw [(nar_ok hx).1] at e3
  have e5 : zI τ3 a 1 = iI (yT c a).length := by subst e3; rw [zI_stI, if_neg (fun q => hab q.1)]; exact e
  rw [e5] at e4
  have := CI_textI (l := yT c a ++ [x]) (τ := τ4) hC hz hk hb (by subst e4 e3; exact ⟨rfl, rfl, rfl, rfl, rfl⟩) (fun y q1 q2 => by subst e4 e3; exact funext fun i => by rw [zI_stI, if_neg (fun q => q1 q.1), zI_stI, if_neg (fun q => q2 q.1)]) (by rw [List.length_append]; exact hl) (by subst e4; rw [zI_stI, if_pos ⟨rfl, rfl⟩, List.length_append, show (1 : Int32) = iI 1 from rfl, iI_add]; rfl) (fun i hi => ?_)
  · exact ⟨wT c a _, hB, this.1, hF.trans this.2, h⟩
  · rw [List.length_append] at hi
    have hi : i < (yT c a).length + 1 := hi
    have : zI τ4 b i = zI τ3 b i := by subst e4; rw [zI_stI, if_neg (fun q => hab q.1.symm)]
    rw [this]
    by_cases q : i = (yT c a).length
    · rw [q, getD_app_eq]
      exact ⟨by subst e3; rw [zI_stI, if_pos ⟨rfl, rfl⟩], hx⟩
    · rw [getD_app_lt (by omega)]
      have : zI τ3 b i = zI σ b i := by subst e3; rw [zI_stI, if_neg (fun r => q r.2)]
      rw [this]
      exact hc i (by omega)
theorem t57 {x : Int} (hk : yK c a = 7) (hx : 0 ≤ x ∧ x ≤ 65535) (hl : (yT c a).length < 1024) (h : Q (Sum.inl none) (wT c a (yT c a ++ [x]))) : CW g B O 57 0 [some (.ref a), some (.int (iI x)), none] [] c Q := by
  intro hB σ hC
  refine WP.ok (fun hz => ?_)
  obtain ⟨b, hb, ⟨bO, bN, bK, b0⟩, ⟨c1, c2, c3⟩, e, hc⟩ := hC.2.2.2.1 a hk
  have aK := hC.kind hk (by omega)
  have aO := hC.2.2.1 a (by omega)
  have hab : ¬ a = b := fun q => by rw [q] at aK; omega
  have han : ¬ a = zN σ := by omega
  have hbn : ¬ b = zN σ := by omega
  have hg : (101 ≤ zK σ b ∧ zK σ b ≤ 104) ∨ zK σ b = 1001 ∨ zK σ b = 1003 := by omega
  by_cases hf : (yT c a).length < zL σ b
  · refine b57_0 ⟨aK, aK, b, hb, hg, fun _ => t57a hB hC hz hk hx hb hf CF.rfl h, fun q => absurd ?_ q⟩
    rw [e, iI_nat, iI_lt (by omega) (by omega)]
    omega
  · have hpa : crd σ a = 2048 - zL σ b := by unfold crd; rw [if_pos aK, hb]
    have hp := crd_le_pot aO.2.1
    have hU := hC.1
    refine b57_0 ⟨aK, aK, b, hb, hg, fun q => absurd q ?_, fun _ => ⟨aK, b, hb, hg, 2 * zL σ b, ?_, by omega, by omega, by omega, fun τ4 e4 => ?_⟩⟩
    · rw [e, iI_nat, iI_lt (by omega) (by omega)]
      omega
    · rw [iI_nat, iI_nat, show (2 : Int32) = iI 2 from rfl, iI_mul]
      congr 1
    · have k4 : ∀ y, ¬ y = zN σ → zK τ4 y = zK σ y ∧ zL τ4 y = zL σ y ∧ zI τ4 y = zI σ y ∧ zP τ4 y = zP σ y := fun y hy => by
        subst e4
        exact ⟨by rw [zK_alA, if_neg hy], by rw [zL_alA, if_neg hy], funext fun i => by rw [zI_alA, if_neg hy], funext fun i => by rw [zP_alA, if_neg hy]⟩
      obtain ⟨ka1, ka2, ka3, ka4⟩ := k4 a han
      obtain ⟨kb1, kb2, kb3, kb4⟩ := k4 b hbn
      have kn1 : zK τ4 (zN σ) = 102 := by subst e4; rw [zK_alA, if_pos rfl]
      have kn2 : zL τ4 (zN σ) = 2 * zL σ b := by subst e4; rw [zL_alA, if_pos rfl]
      refine ⟨by omega, b, by rw [ka4]; exact hb, by omega, (yT c a).length, 0, 0, by rw [ka3, e, iI_nat], rfl, rfl, by omega, by omega, by omega, hbn, by omega, kn1, fun i hi => ?_, fun τ9 e9 => ⟨by subst e9; rw [zK_cpI]; omega, fun τ10 e10 => ?_⟩⟩
      · rw [Nat.zero_add, kb3, (hc i hi).1]
        exact (nar_ok (hc i hi).2).2
      · have f1 : zN τ10 = zN σ + 1 ∧ zS τ10 = zS σ + 2 * zL σ b := by subst e10 e9 e4; exact ⟨rfl, rfl⟩
        have fK : zK τ10 = zK τ4 := by subst e10 e9; rfl
        have fL : zL τ10 = zL τ4 := by subst e10 e9; rfl
        have fI : ∀ y, ¬ y = zN σ → zI τ10 y = zI τ4 y := fun y hy => by subst e10 e9; exact funext fun i => by rw [zI_stP, zI_cpI, if_neg hy]
        have fP : ∀ y, ¬ y = a → zP τ10 y = zP τ4 y := fun y hy => by subst e10 e9; exact funext fun i => by rw [zP_stP, if_neg (fun q => hy q.1)]; rfl
        have fa : zP τ10 a 0 = some (zN σ) := by subst e10; rw [zP_stP, if_pos ⟨rfl, rfl⟩]
        have fn : ∀ i, i < (yT c a).length → zI τ10 (zN σ) i = zI σ b i := fun i hi => by
          subst e10 e9
          rw [zI_stP, zI_cpI, if_pos rfl]
          unfold va_cpy
          rw [if_pos ⟨Nat.zero_le _, by omega⟩, kb3, Nat.zero_add, Nat.sub_zero]
        have hsm : ∀ y, ¬ y = zN σ → ¬ y = a → Sm σ τ10 y := fun y q1 q2 => by
          obtain ⟨r1, r2, r3, r4⟩ := k4 y q1
          exact ⟨by rw [fK]; exact r1, by rw [fL]; exact r2, by rw [fI y q1]; exact r3, by rw [fP y q2]; exact r4⟩
        have hca : crd τ10 a = 2048 - 2 * zL σ b := by unfold crd; rw [fK, ka1, if_pos aK, fa]; dsimp only; rw [fL, kn2]
        have hcn : crd τ10 (zN σ) = 0 := by unfold crd; rw [fK, kn1]; rfl
        have hpot := pot_upd (σ := σ) (τ := τ10) aO.2.1 f1.1 (fun y q1 q2 => crd_of (hsm y (by omega) q2).1 (fun q => ⟨by rw [(hsm y (by omega) q2).2.2.2], fun z hzz => by rw [fL, (k4 z (by have := hC.2.2.2.2.2.2.2.2.2.2 y z q hzz; omega)).2.1]⟩) (fun _ => by rw [(hsm y (by omega) q2).2.2.1])) hcn
        have hI := CI_text (l := yT c a) (τ := τ10) hC hz hk hb (by omega) (fun y q1 q2 q3 => hsm y (by omega) q2) (by rw [fK]; omega) (by rw [fK]; omega) (fun y hy => by
          rw [fK]
          by_cases q : y = zN σ
          · rw [q]; omega
          · rw [(k4 y q).1, hz y hy]; omega) ⟨zN σ, fa, ⟨hC.2.2.2.2.2.2.2.2.2.1 _ (Nat.le_refl _), by omega, by rw [fK]; exact kn1, ?_⟩, ⟨by rw [fL]; omega, by rw [fL]; omega, by rw [fL]; omega⟩, by rw [fI a han, ka3]; exact e, fun i hi => by rw [fn i hi]; exact hc i hi⟩ (Or.inr ⟨_, fa, Nat.le_refl _⟩) (by omega)
        · rw [wT_self] at hI
          refine t57a hB hI.1 (by subst e10 e9 e4; exact zOK_stP (zOK_cpI (zOK_alA hz))) hk hx fa (by rw [fL]; omega) hI.2 h
        · exact Decidable.of_not_not fun q => by have := (hC.2.2.1 _ q).2.1; omega
theorem t58 {x : Int} (hk : yK c a = 7) (hx : 0 ≤ x ∧ x ≤ 2147483647) (h : Q (Sum.inl none) (wT c a ((yT c a).take x.toNat))) : CW g B O 58 0 [some (.ref a), some (.int (iI x))] [] c Q := by
  intro hB σ hC
  refine WP.ok (fun hz => ?_)
  have hl := len_R hC hk
  obtain ⟨b, hb, ⟨bO, bN, bK, b0⟩, ⟨c1, c2, c3⟩, e, hc⟩ := hC.2.2.2.1 a hk
  have aK := hC.kind hk (by omega)
  have hab : ¬ a = b := fun q => by rw [q] at aK; omega
  refine b58_0 ⟨fun q => absurd q ?_, fun _ => ⟨aK, fun r => b58_17 ?_, fun r => ⟨aK, fun τ e1 => b58_17 ?_⟩⟩⟩
  · rw [iI_0, iI_lt (by omega) (by omega)]
    omega
  · rw [e, iI_le (by omega) (by omega)] at r
    rw [List.take_of_length_le (by omega), wT_self] at h
    exact ⟨c, hB, hC, CF.rfl, h⟩
  · rw [e, iI_le (by omega) (by omega)] at r
    have hlen : ((yT c a).take x.toNat).length = x.toNat := by rw [List.length_take]; omega
    have := CI_textI (l := (yT c a).take x.toNat) (τ := τ) hC hz hk hb (by subst e1; exact ⟨rfl, rfl, rfl, rfl, rfl⟩) (fun y q1 q2 => by subst e1; exact funext fun i => by rw [zI_stI, if_neg (fun q => q1 q.1)]) (by omega) (by subst e1; rw [zI_stI, if_pos ⟨rfl, rfl⟩, hlen, Int.toNat_of_nonneg hx.1]) (fun i hi => ?_)
    · exact ⟨wT c a _, hB, this.1, this.2, h⟩
    · rw [hlen] at hi
      have e2 : ((yT c a).take x.toNat).getD i 0 = (yT c a).getD i 0 := by
        rw [List.getD_eq_getElem?_getD, List.getD_eq_getElem?_getD, List.getElem?_take_of_lt hi]
      have e3 : zI τ b i = zI σ b i := by subst e1; rw [zI_stI, if_neg (fun q => hab q.1.symm)]
      rw [e2, e3]
      exact hc i (by omega)
end TMeth
