section Zs
variable {σ : PS} {a b k j n sp dp : Nat} {v : Int32} {q : Option Nat} {κ : Nat}
theorem zI_stI : zI (stI σ a k v) b j = if b = a ∧ j = k then v else zI σ b j := rfl
theorem zI_stP : zI (stP σ a k q) = zI σ := rfl
theorem zP_stI : zP (stI σ a k v) = zP σ := rfl
theorem zP_stP : zP (stP σ a k q) b j = if b = a ∧ j = k then q else zP σ b j := rfl
theorem zK_stI : zK (stI σ a k v) = zK σ := rfl
theorem zK_stP : zK (stP σ a k q) = zK σ := rfl
theorem zL_stI : zL (stI σ a k v) = zL σ := rfl
theorem zL_stP : zL (stP σ a k q) = zL σ := rfl
theorem zN_stI : zN (stI σ a k v) = zN σ := rfl
theorem zN_stP : zN (stP σ a k q) = zN σ := rfl
theorem zS_stI : zS (stI σ a k v) = zS σ := rfl
theorem zS_stP : zS (stP σ a k q) = zS σ := rfl
theorem zI_alA : zI (alA σ κ n) b j = if b = zN σ then 0 else zI σ b j := rfl
theorem zP_alA : zP (alA σ κ n) b j = if b = zN σ then none else zP σ b j := rfl
theorem zK_alA : zK (alA σ κ n) b = if b = zN σ then κ else zK σ b := rfl
theorem zL_alA : zL (alA σ κ n) b = if b = zN σ then n else zL σ b := rfl
theorem zN_alA : zN (alA σ κ n) = zN σ + 1 := rfl
theorem zS_alA : zS (alA σ κ n) = zS σ + n := rfl
theorem zI_alO : zI (alO σ κ n) b j = if b = zN σ then 0 else zI σ b j := rfl
theorem zP_alO : zP (alO σ κ n) b j = if b = zN σ then none else zP σ b j := rfl
theorem zK_alO : zK (alO σ κ n) b = if b = zN σ then κ else zK σ b := rfl
theorem zL_alO : zL (alO σ κ n) = zL σ := rfl
theorem zN_alO : zN (alO σ κ n) = zN σ + 1 := rfl
theorem zS_alO : zS (alO σ κ n) = zS σ + n := rfl
theorem zI_cpI : zI (cpI σ a sp b dp n) k j = if k = b then va_cpy (zI σ a) (zI σ b) sp dp n j else zI σ k j := rfl
theorem zP_cpI : zP (cpI σ a sp b dp n) = zP σ := rfl
theorem zK_cpI : zK (cpI σ a sp b dp n) = zK σ := rfl
theorem zL_cpI : zL (cpI σ a sp b dp n) = zL σ := rfl
theorem zN_cpI : zN (cpI σ a sp b dp n) = zN σ := rfl
theorem zS_cpI : zS (cpI σ a sp b dp n) = zS σ := rfl
theorem zP_cpP : zP (cpP σ a sp b dp n) k j = if k = b then va_cpy (zP σ a) (zP σ b) sp dp n j else zP σ k j := rfl
theorem zI_cpP : zI (cpP σ a sp b dp n) = zI σ := rfl
theorem zK_cpP : zK (cpP σ a sp b dp n) = zK σ := rfl
theorem zL_cpP : zL (cpP σ a sp b dp n) = zL σ := rfl
theorem zN_cpP : zN (cpP σ a sp b dp n) = zN σ := rfl
theorem zS_cpP : zS (cpP σ a sp b dp n) = zS σ := rfl
end Zs
theorem wT_self (c : CS) (a : Nat) : wT c a (yT c a) = c := by
  have : (fun b => if b = a then yT c a else yT c b) = yT c := funext fun b => by
    split
    · next e => rw [e]
    · rfl
  show (yU c, yK c, yI c, yP c, (fun b => if b = a then yT c a else yT c b), yE c) = c
  rw [this]
  rfl
theorem yT_wT (c : CS) (a : Nat) (l : List Int) : yT (wT c a l) a = l := if_pos rfl
theorem yE_wE (c : CS) (a : Nat) (l : List Nat) : yE (wE c a l) a = l := if_pos rfl
theorem wT_wT (c : CS) (a : Nat) (l l' : List Int) : wT (wT c a l) a l' = wT c a l' := by
  have : (fun b => if b = a then l' else (if b = a then l else yT c b)) = (fun b => if b = a then l' else yT c b) := funext fun b => by
    split <;> rfl
  show (yU c, yK c, yI c, yP c, (fun b => if b = a then l' else (if b = a then l else yT c b)), yE c) = _
  rw [this]
  rfl
section CText
variable {g : Nat → Nat} {B : Nat} {O : Nat → Prop} {σ τ : PS} {c : CS} {a b : Nat} {l : List Int}
theorem CI_text (h : CI g O σ c) (hz : zOK σ) (ha : yK c a = 7) (hb : zP σ a 0 = some b) (hN : zN σ ≤ zN τ) (hs : ∀ x, x < zN σ → ¬ x = a → ¬ x = b → Sm σ τ x) (hKa : zK τ a = 7) (hKb : ¬ zK τ b = 7) (hn7 : ∀ x, zN σ ≤ x → ¬ zK τ x = 7) (hT : TxR O τ (wT c a l) a l) (hbt : zP τ a 0 = some b ∨ ∃ b2, zP τ a 0 = some b2 ∧ zN σ ≤ b2) (hU : zS τ + 2 * pot τ ≤ zS σ + 2 * pot σ ∧ 8 * zN τ + pot τ ≤ 8 * zN σ + pot σ) : CI g O τ (wT c a l) ∧ CF O σ τ := by
  obtain ⟨b0, bK, bO, bN⟩ := h.hid ha hb
  have aO := h.2.2.1 a (by omega)
  have hF : CF O σ τ := ⟨fun x hx hO => hs x hx (fun q => hO (q ▸ aO.1)) (fun q => hO (q ▸ bO)), hN⟩
  refine ⟨?_, hF⟩
  have hC := h
  obtain ⟨h1, h2, h3, h4, h5, h6, h7, h8, h9, h10⟩ := h
  have vis : ∀ x, ¬ yK c x = 0 → ¬ x = a → Sm σ τ x := fun x hx hxa => hs x (h3 x hx).2.1 hxa (fun q => hx (by rw [q]; exact b0))
  have hid : ∀ x y, yK c x = 7 → ¬ x = a → zP σ x 0 = some y → Sm σ τ y ∧ yK c y = 0 ∧ y < zN σ ∧ ¬ y = b := fun x y hx hxa hy => by
    obtain ⟨q1, q2, q3, q4⟩ := hC.hid hx hy
    have hyb : ¬ y = b := fun q => hxa (h7 x a b hx ha (q ▸ hy) hb)
    exact ⟨hs y q4 (fun q => by rw [q, ha] at q1; omega) hyb, q1, q4, hyb⟩
  have hinj : ∀ x y, yK c x = 7 → ¬ x = a → zP σ x 0 = some y → ¬ zP τ a 0 = some y := fun x y hx hxa hy q => by
    obtain ⟨-, -, q3, q4⟩ := hid x y hx hxa hy
    rcases hbt with e | ⟨b2, e, e2⟩
    · rw [e] at q; cases q; exact q4 rfl
    · rw [e] at q; cases q; omega
  have hk9 : ∀ x, 1 ≤ zK σ x → zK σ x ≤ 9 → zK τ x = zK σ x := fun x q1 q2 => by
    by_cases e : x = a
    · rw [e, hKa, aO.2.2, ha]
    · by_cases e2 : x < zN σ
      · exact (hs x e2 e (fun q => by rw [q, bK] at q2; omega)).1
      · rw [hz x (by omega)] at q1; omega
  refine ⟨⟨Nat.le_trans hU.1 h1.1, Nat.le_trans hU.2 h1.2⟩, h2, fun x hx => ?_, fun x hx => ?_, fun x hx => ?_, fun x hx => ?_, fun x x' y e1 e2 e3 e4 => ?_, fun x x' y e1 e2 e3 e4 => ?_, h9.kept hF, fun x hx => h10.1 x (by omega), fun x y e1 e2 => ?_⟩
  · have hx : ¬ yK c x = 0 := hx
    obtain ⟨q1, q2, q3⟩ := h3 x hx
    refine ⟨q1, by omega, ?_⟩
    by_cases e : x = a
    · rw [e, hKa]; exact ha.symm
    · exact (vis x hx e).1.trans q3
  · have hx : yK c x = 7 := hx
    by_cases e : x = a
    · subst e
      rw [yT_wT]
      exact hT
    · show TxR O τ _ x (if x = a then l else yT c x)
      rw [if_neg e]
      exact (h4 x hx).kept (vis x (by omega) e) hN (fun y hy => ⟨(hid x y hx e hy).1, (hid x y hx e hy).2.1⟩)
  · have hx : yK c x = 1 := hx
    have e : ¬ x = a := fun q => by rw [q] at hx; omega
    refine (h5 x hx).kept (vis x (by omega) e) hN (fun y hy => ?_) hk9
    rcases hC.hidL hx hy with q | ⟨q1, q2, q3, q4⟩
    · have hg := h9.2.1
      exact ⟨q ▸ hs (g 1) hg.2.1 (fun q => hg.1 (q ▸ aO.1)) (fun q => hg.1 (q ▸ bO)), Or.inl q⟩
    · exact ⟨hs y q4 (fun q => by rw [q, ha] at q1; omega) (fun q => by rw [q] at q2; omega), Or.inr q1⟩
  · have hx : plK (yK c x) := hx
    have e : ¬ x = a := fun q => hx.2.2 (q ▸ ha)
    obtain ⟨q1, q2, q3, q4⟩ := vis x hx.1 e
    exact ⟨fun i => by rw [q3, q4]; exact (h6 x hx).1 i, fun q => by rw [q2]; exact (h6 x hx).2 q⟩
  · have e1 : yK c x = 7 := e1
    have e2 : yK c x' = 7 := e2
    by_cases n1 : x = a
    · by_cases n2 : x' = a
      · rw [n1, n2]
      · rw [(vis x' (by omega) n2).2.2.2] at e4
        subst n1
        exact absurd e3 (hinj x' y e2 n2 e4)
    · rw [(vis x (by omega) n1).2.2.2] at e3
      by_cases n2 : x' = a
      · subst n2
        exact absurd e4 (hinj x y e1 n1 e3)
      · rw [(vis x' (by omega) n2).2.2.2] at e4
        exact h7 x x' y e1 e2 e3 e4
  · have e1 : yK c x = 1 := e1
    have e2 : yK c x' = 1 := e2
    rw [(vis x (by omega) (fun q => by rw [q] at e1; omega)).2.2.2] at e3
    rw [(vis x' (by omega) (fun q => by rw [q] at e2; omega)).2.2.2] at e4
    exact h8 x x' y e1 e2 e3 e4
  · by_cases n1 : x = a
    · subst n1
      obtain ⟨b', q1, q2, -⟩ := hT
      rw [q1] at e2
      cases e2
      exact q2.2.1
    · by_cases n2 : x = b
      · exact absurd (n2 ▸ e1) hKb
      · by_cases n3 : x < zN σ
        · obtain ⟨q1, q2, q3, q4⟩ := hs x n3 n1 n2
          rw [q1] at e1
          rw [q4] at e2
          exact Nat.lt_of_lt_of_le (h10.2 x y e1 e2) hN
        · exact absurd e1 (hn7 x (by omega))
theorem CI_textI (h : CI g O σ c) (hz : zOK σ) (ha : yK c a = 7) (hb : zP σ a 0 = some b) (e : zN τ = zN σ ∧ zS τ = zS σ ∧ zK τ = zK σ ∧ zL τ = zL σ ∧ zP τ = zP σ) (hI : ∀ x, ¬ x = a → ¬ x = b → zI τ x = zI σ x) (hl : l.length ≤ zL σ b) (h1 : zI τ a 1 = iI l.length) (hc : ∀ i : Nat, i < l.length → zI τ b i = iI (l.getD i 0) ∧ 0 ≤ l.getD i 0 ∧ l.getD i 0 ≤ 65535) : CI g O τ (wT c a l) ∧ CF O σ τ := by
  obtain ⟨b0, bK, bO, bN⟩ := h.hid ha hb
  have aO := h.2.2.1 a (by omega)
  obtain ⟨e1, e2, e3, e4, e5⟩ := e
  have hp : pot τ = pot σ := pot_same e1 (fun x hx => crd_of (by rw [e3]) (fun _ => ⟨by rw [e5], fun _ _ => by rw [e4]⟩) (fun q => by rw [hI x (fun r => by rw [r, aO.2.2] at q; omega) (fun r => by rw [r] at q; omega)]))
  refine CI_text h hz ha hb (by omega) (fun x _ q1 q2 => ⟨by rw [e3], by rw [e4], hI x q1 q2, by rw [e5]⟩) (by rw [e3, aO.2.2]; exact ha) (by rw [e3]; omega) (fun x hx => by rw [e3, hz x hx]; omega) ⟨b, by rw [e5]; exact hb, ⟨bO, by omega, by rw [e3]; exact bK, b0⟩, ⟨?_, ?_, by rw [e4]; exact hl⟩, h1, hc⟩ (Or.inl (by rw [e5]; exact hb)) (by omega)
  · obtain ⟨b', q1, q2, q3, -⟩ := h.2.2.2.1 a ha
    rw [hb] at q1
    cases q1
    rw [e4]
    exact q3.1
  · obtain ⟨b', q1, q2, q3, -⟩ := h.2.2.2.1 a ha
    rw [hb] at q1
    cases q1
    rw [e4]
    exact q3.2.1
theorem getD_app_lt {l : List Int} {x : Int} {i : Nat} (h : i < l.length) : (l ++ [x]).getD i 0 = l.getD i 0 := by
  rw [List.getD_eq_getElem?_getD, List.getD_eq_getElem?_getD, List.getElem?_append_left h]
theorem getD_app_eq {l : List Int} {x : Int} : (l ++ [x]).getD l.length 0 = x := by
  rw [List.getD_eq_getElem?_getD, List.getElem?_append_right (Nat.le_refl _)]
  simp
theorem nar_ok {x : Int} (hx : 0 ≤ x ∧ x ≤ 65535) : vp_nar .char ((iI x).toUInt32 % 65536).toInt32 = iI x ∧ narrow .char (.int (iI x)) = .int (iI x) := by
  have e : iI x = nI x.toNat := iI_tn hx.1
  have e2 : (nI x.toNat).toBitVec.toNat = x.toNat := by
    show (BitVec.ofNat 32 x.toNat).toNat = _
    rw [BitVec.toNat_ofNat, Nat.mod_eq_of_lt (by omega)]
  rw [e, pk_vc, pk_char, e2, Nat.mod_eq_of_lt (by omega)]
  exact ⟨rfl, (pk_charN (by omega)).1⟩
end CText
