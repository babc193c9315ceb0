section LMeth
variable {g : Nat → Nat} {B : Nat} {O : Nat → Prop} {σ τ : PS} {c : CS} {a b : Nat} {Q : Rs → CS → Prop}
theorem CI_list {l : List Nat} {u : Nat} (h : CI g O σ c) (hz : zOK σ) (ha : yK c a = 1) (hb : zP σ a 1 = some b) (hN : zN σ ≤ zN τ) (hs : ∀ x, x < zN σ → ¬ x = a → (b = g 1 ∨ ¬ x = b) → Sm σ τ x) (hKa : zK τ a = 1) (hKb : ¬ b = g 1 → ¬ zK τ b = 7) (hn7 : ∀ x, zN σ ≤ x → ¬ zK τ x = 7) (hL : LsR g O τ (wE c a l) a l) (hbt : zP τ a 1 = some b ∨ ∃ b2, zP τ a 1 = some b2 ∧ zN σ ≤ b2) (hU : zS τ + 2 * pot τ ≤ u ∧ 8 * zN τ + pot τ ≤ u) : CI g O τ (wU (wE c a l) u) ∧ CF O σ τ := by
  have hC := h
  have aO := h.2.2.1 a (by omega)
  have hbO := h.hidL ha hb
  have hF : CF O σ τ := ⟨fun x hx hO => hs x hx (fun q => hO (q ▸ aO.1)) (by
    rcases hbO with q | ⟨-, -, q, -⟩
    · exact Or.inl q
    · exact Or.inr (fun r => hO (r ▸ q))), hN⟩
  refine ⟨?_, hF⟩
  obtain ⟨h1, h2, h3, h4, h5, h6, h7, h8, h9, h10⟩ := h
  have hx' : ∀ x, (x = b → b = g 1) → (b = g 1 ∨ ¬ x = b) := fun x hx => by
    by_cases q : x = b
    · exact Or.inl (hx q)
    · exact Or.inr q
  have vis : ∀ x, ¬ yK c x = 0 → ¬ x = a → Sm σ τ x := fun x hx hxa => hs x (h3 x hx).2.1 hxa (hx' x (fun q => by
    rcases hbO with r | ⟨r, -⟩
    · exact r
    · exact absurd (q ▸ r) hx))
  have hk9 : ∀ x, 1 ≤ zK σ x → zK σ x ≤ 9 → zK τ x = zK σ x := fun x q1 q2 => by
    by_cases e : x = a
    · rw [e, hKa, aO.2.2, ha]
    · by_cases e2 : x < zN σ
      · exact (hs x e2 e (hx' x (fun q => by
          rcases hbO with r | ⟨-, r, -⟩
          · exact r
          · rw [q, r] at q2; omega))).1
      · rw [hz x (by omega)] at q1; omega
  refine ⟨hU, h2, fun x hx => ?_, fun x hx => ?_, fun x hx => ?_, fun x hx => ?_, fun x x' y e1 e2 e3 e4 => ?_, fun x x' y e1 e2 e3 e4 => ?_, h9.kept hF, fun x hx => h10.1 x (by omega), fun x y e1 e2 => ?_⟩
  · have hx : ¬ yK c x = 0 := hx
    obtain ⟨q1, q2, q3⟩ := h3 x hx
    refine ⟨q1, by omega, ?_⟩
    by_cases e : x = a
    · rw [e, hKa]; exact ha.symm
    · exact (vis x hx e).1.trans q3
  · have hx : yK c x = 7 := hx
    have e : ¬ x = a := fun q => by rw [q] at hx; omega
    refine (h4 x hx).kept (vis x (by omega) e) hN (fun y hy => ?_)
    obtain ⟨q1, q2, q3, q4⟩ := hC.hid hx hy
    refine ⟨hs y q4 (fun q => by rw [q, ha] at q1; omega) (hx' y (fun q => ?_)), q1⟩
    rcases hbO with r | ⟨-, r, -⟩
    · exact r
    · rw [q, r] at q2; omega
  · have hx : yK c x = 1 := hx
    by_cases e : x = a
    · subst e
      show LsR g O τ _ x (if x = x then l else yE c x)
      rw [if_pos rfl]
      exact hL
    · show LsR g O τ _ x (if x = a then l else yE c x)
      rw [if_neg e]
      refine (h5 x hx).kept (vis x (by omega) e) hN (fun y hy => ?_) hk9
      have hg := h9.2.1
      rcases hC.hidL hx hy with q | ⟨q1, q2, q3, q4⟩
      · exact ⟨q ▸ hs (g 1) hg.2.1 (fun q => hg.1 (q ▸ aO.1)) (hx' _ (fun r => r.symm)), Or.inl q⟩
      · refine ⟨hs y q4 (fun q => by rw [q, ha] at q1; omega) (hx' y (fun q => ?_)), Or.inr q1⟩
        rcases h8 x a b hx ha (q ▸ hy) hb with r | r
        · exact r
        · exact absurd r e
  · have hx : plK (yK c x) := hx
    have e : ¬ x = a := fun q => hx.2.1 (q ▸ ha)
    obtain ⟨q1, q2, q3, q4⟩ := vis x hx.1 e
    exact ⟨fun i => by rw [q3, q4]; exact (h6 x hx).1 i, fun q => by rw [q2]; exact (h6 x hx).2 q⟩
  · have e1 : yK c x = 7 := e1
    have e2 : yK c x' = 7 := e2
    rw [(vis x (by omega) (fun q => by rw [q] at e1; omega)).2.2.2] at e3
    rw [(vis x' (by omega) (fun q => by rw [q] at e2; omega)).2.2.2] at e4
    exact h7 x x' y e1 e2 e3 e4
  · have e1 : yK c x = 1 := e1
    have e2 : yK c x' = 1 := e2
    have key : ∀ x y, yK c x = 1 → ¬ x = a → zP σ x 1 = some y → zP τ a 1 = some y → y = g 1 := fun x y hx hxa hy q => by
      rcases hbt with e | ⟨b2, e, e2⟩
      · rw [e] at q
        cases q
        rcases h8 x a b hx ha hy hb with r | r
        · exact r
        · exact absurd r hxa
      · rw [e] at q
        cases q
        rcases hC.hidL hx hy with r | ⟨-, -, -, r⟩
        · exact r
        · omega
    by_cases n1 : x = a
    · by_cases n2 : x' = a
      · exact Or.inr (by rw [n1, n2])
      · rw [(vis x' (by omega) n2).2.2.2] at e4
        subst n1
        exact Or.inl (key x' y e2 n2 e4 e3)
    · rw [(vis x (by omega) n1).2.2.2] at e3
      by_cases n2 : x' = a
      · subst n2
        exact Or.inl (key x y e1 n1 e3 e4)
      · rw [(vis x' (by omega) n2).2.2.2] at e4
        exact h8 x x' y e1 e2 e3 e4
  · by_cases n1 : x = a
    · rw [n1, hKa] at e1; omega
    · by_cases n3 : x < zN σ
      · by_cases n2 : x = b
        · by_cases n4 : b = g 1
          · obtain ⟨q1, q2, q3, q4⟩ := hs x n3 n1 (Or.inl n4)
            rw [q1] at e1
            rw [q4] at e2
            exact Nat.lt_of_lt_of_le (h10.2 x y e1 e2) hN
          · exact absurd (n2 ▸ e1) (hKb n4)
        · obtain ⟨q1, q2, q3, q4⟩ := hs x n3 n1 (Or.inr n2)
          rw [q1] at e1
          rw [q4] at e2
          exact Nat.lt_of_lt_of_le (h10.2 x y e1 e2) hN
      · exact absurd e1 (hn7 x (by omega))
theorem t161 (hk : yK c a = 1) (h : Q (Sum.inl (some (.int (iI (yE c a).length)))) c) : CW g B O 161 0 [some (.ref a)] [] c Q := by
  intro hB σ hC
  obtain ⟨b, hb, -, -, h1, -⟩ := hC.2.2.2.2.1 a hk
  refine b161_0 ⟨hC.kind hk (by omega), ?_⟩
  rw [h1]
  exact ⟨c, hB, hC, CF.rfl, h⟩
theorem t163 {x : Int} (hk : yK c a = 1) (hx : 0 ≤ x ∧ x < (yE c a).length) (h : Q (Sum.inl (some (.ref ((yE c a).getD x.toNat 0)))) c) : CW g B O 163 0 [some (.ref a), some (.int (iI x))] [] c Q := by
  intro hB σ hC
  obtain ⟨b, hb, hbk, ⟨q1, q2, q3⟩, h1, h2⟩ := hC.2.2.2.2.1 a hk
  have aK := hC.kind hk (by omega)
  have hbK : zK σ b = 104 := by
    rcases hbk with r | ⟨-, -, r, -⟩
    · have := hC.2.2.2.2.2.2.2.2.1.2.1.2.2.2
      rw [← r] at this
      omega
    · exact r
  have e : iI x = nI x.toNat := iI_tn hx.1
  refine b163_0 ⟨aK, ?_⟩
  rw [h1]
  refine p169 ?_ ?_ (b163_8 ⟨aK, ?_⟩)
  · rw [iI_0, iI_lt (by omega) (by omega)]; omega
  · rw [iI_lt (by omega) (by omega)]; omega
  · rw [e]
    exact p162 aK hb hbK (by omega) (by omega) (h2 x.toNat (by omega)).1 (b163_14 ⟨c, hB, hC, CF.rfl, h⟩)
theorem getD_set_eq {l : List Nat} {n r : Nat} (h : n < l.length) : (l.set n r).getD n 0 = r := by
  rw [List.getD_eq_getElem?_getD, List.getElem?_set_self h]
  rfl
theorem getD_set_ne {l : List Nat} {n r i : Nat} (h : ¬ i = n) : (l.set n r).getD i 0 = l.getD i 0 := by
  rw [List.getD_eq_getElem?_getD, List.getElem?_set_ne (fun q => h q.symm), ← List.getD_eq_getElem?_getD]
theorem t164 {x : Int} {r : Nat} (hk : yK c a = 1) (hx : 0 ≤ x ∧ x < (yE c a).length) (hr : 1 ≤ yK c r ∧ yK c r ≤ 9) (h : Q (Sum.inl (some (.ref ((yE c a).getD x.toNat 0)))) (wE c a ((yE c a).set x.toNat r))) : CW g B O 164 0 [some (.ref a), some (.int (iI x)), some (.ref r), none] [] c Q := by
  intro hB σ hC
  refine WP.ok (fun hz => ?_)
  obtain ⟨b, hb, hbk, ⟨q1, q2, q3⟩, h1, h2⟩ := hC.2.2.2.2.1 a hk
  have aK := hC.kind hk (by omega)
  have hbK : zK σ b = 104 ∧ ¬ b = g 1 ∧ b < zN σ ∧ O b ∧ yK c b = 0 := by
    have := hC.2.2.2.2.2.2.2.2.1.2.1.2.2
    rcases hbk with r | ⟨r1, r2, r, r3⟩
    · rw [← r] at this
      omega
    · exact ⟨r, fun q => by rw [← q] at this; omega, r2, r1, r3⟩
  have e : iI x = nI x.toNat := iI_tn hx.1
  have rK : zK σ r = yK c r := hC.kind rfl (by omega)
  have hab : ¬ a = b := fun q => by rw [q] at aK; omega
  refine b164_0 ⟨aK, ?_⟩
  rw [h1]
  refine p169 ?_ ?_ (b164_8 ⟨aK, ?_⟩)
  · rw [iI_0, iI_lt (by omega) (by omega)]; omega
  · rw [iI_lt (by omega) (by omega)]; omega
  · rw [e]
    refine p162 aK hb hbK.1 (by omega) (by omega) (h2 x.toNat (by omega)).1 (b164_14 ⟨aK, b, hb, x.toNat, rfl, by omega, Or.inr ⟨hbK.1, by omega, by omega⟩, by omega, fun τ e3 => ?_⟩)
    have hs : ∀ y, ¬ y = b → Sm σ τ y := fun y hy => by
      subst e3
      exact ⟨rfl, rfl, rfl, funext fun j => by rw [zP_stP, if_neg (fun q => hy q.1)]⟩
    have hp : pot τ = pot σ := pot_same (by subst e3; rfl) (fun y hy => by
      refine crd_of (by subst e3; rfl) (fun q => ?_) (fun _ => by subst e3; rfl)
      rw [(hs y (fun r => by rw [r] at q; omega)).2.2.2]
      exact ⟨rfl, fun _ _ => by subst e3; rfl⟩)
    have := CI_list (u := yU c) (l := (yE c a).set x.toNat r) (τ := τ) hC hz hk hb (by subst e3; exact Nat.le_refl _) (fun y _ _ q => hs y (q.resolve_left hbK.2.1)) (by subst e3; exact aK) (fun _ => by subst e3; rw [zK_stP]; omega) (fun y hy => by subst e3; rw [zK_stP, hz y hy]; omega) ⟨b, by rw [(hs a hab).2.2.2]; exact hb, Or.inr ⟨hbK.2.2.2.1, by subst e3; exact hbK.2.2.1, by subst e3; exact hbK.1, hbK.2.2.2.2⟩, by rw [List.length_set]; subst e3; exact ⟨q1, q2, q3⟩, by rw [List.length_set, (hs a hab).2.2.1]; exact h1, fun i hi => ?_⟩ (Or.inl (by rw [(hs a hab).2.2.2]; exact hb)) (by rw [hp]; subst e3; exact hC.1)
    · exact ⟨wE c a _, hB, this.1, this.2, h⟩
    · rw [List.length_set] at hi
      have hkk : zK τ = zK σ := by subst e3; rfl
      rw [hkk]
      by_cases q : i = x.toNat
      · rw [q, getD_set_eq (by omega)]
        exact ⟨by subst e3; rw [zP_stP, if_pos ⟨rfl, rfl⟩], by omega, by omega⟩
      · rw [getD_set_ne q]
        have : zP τ b i = zP σ b i := by subst e3; rw [zP_stP, if_neg (fun r => q r.2)]
        rw [this]
        exact h2 i hi
theorem getDn_app_lt {l : List Nat} {x i : Nat} (h : i < l.length) : (l ++ [x]).getD i 0 = l.getD i 0 := by
  rw [List.getD_eq_getElem?_getD, List.getD_eq_getElem?_getD, List.getElem?_append_left h]
theorem getDn_app_eq {l : List Nat} {x : Nat} : (l ++ [x]).getD l.length 0 = x := by
  rw [List.getD_eq_getElem?_getD, List.getElem?_append_right (Nat.le_refl _)]
  simp
/-- the last steps of add: the array b' has room -/
theorem t165 {r n b' : Nat} {σ1 : PS} (hB : yU c ≤ B) (hC : CI g O σ c) (hz : zOK σ) (hk : yK c a = 1) (hb : zP σ a 1 = some b) (hr : 1 ≤ yK c r ∧ yK c r ≤ 9) (hn : (yE c a).length = n) (hn64 : n < 64)
    (e1 : (zN σ1 = zN σ ∨ zN σ1 = zN σ + 1) ∧ zS σ1 ≤ zS σ + 96) (e2 : ∀ y, y < zN σ → zK σ1 y = zK σ y ∧ zL σ1 y = zL σ y) (e3 : ∀ y, y < zN σ → ¬ y = a → zI σ1 y = zI σ y) (e4 : ∀ y j, y < zN σ → ¬ (y = a ∧ j = 1) → zP σ1 y j = zP σ y j) (e5 : ∀ j, ¬ j = 0 → zI σ1 a j = zI σ a j) (e6 : zP σ1 a 1 = some b') (e7 : (b' = b ∧ ¬ b = g 1 ∧ zN σ1 = zN σ) ∨ (b' = zN σ ∧ zN σ1 = zN σ + 1)) (e8 : zK σ1 b' = 104) (e9 : n < zL σ1 b' ∧ zL σ1 b' ≤ 96) (e10 : ∀ i, i < n → zP σ1 b' i = zP σ b i) (hz1 : zOK σ1)
    (h : Q (Sum.inl (some (.int (iI 1)))) (wU (wE c a (yE c a ++ [r])) (yU c - 100))) : WP g (B / 8) B 165 11 [some (.ref a), some (.ref r), some (.ref b'), some (.int (iI n))] [] σ1 (KK g (B / 8) B 166 23 [some (.ref a), some (.ref r)] [] (fun r τ => ∃ d, yU d ≤ B ∧ CI g O τ d ∧ CF O σ τ ∧ Q r d) false) := by
  obtain ⟨b0, hb0, hbk, ⟨q1, q2, q3⟩, h1, h2⟩ := hC.2.2.2.2.1 a hk
  rw [hb] at hb0
  cases hb0
  have aK := hC.kind hk (by omega)
  have aO := hC.2.2.1 a (by omega)
  have rK : zK σ r = yK c r := hC.kind rfl (by omega)
  have rN : r < zN σ := (hC.2.2.1 r (by omega)).2.1
  have bN : b < zN σ := by
    rcases hbk with r | ⟨-, r, -⟩
    · rw [r]; exact hC.2.2.2.2.2.2.2.2.1.2.1.2.1
    · exact r
  have bK : ¬ b = g 1 → zK σ b = 104 ∧ O b ∧ yK c b = 0 := fun q => by
    rcases hbk with r | ⟨r1, r2, r3, r4⟩
    · exact absurd r q
    · exact ⟨r3, r1, r4⟩
  have hb'a : ¬ b' = a := fun q => by rw [q, (e2 a aO.2.1).1] at e8; omega
  have k1 := e2 a aO.2.1
  have krr := e2 r rN
  refine b165_11 ⟨n, by rw [iI_nat], by omega, Or.inr ⟨e8, by omega, by omega⟩, e9.1, fun τ2 f2 => ⟨by subst f2; rw [zK_stP]; omega, fun τ3 f3 => b166_23 ?_⟩⟩
  have g1 : zN τ3 = zN σ1 ∧ zS τ3 = zS σ1 ∧ zK τ3 = zK σ1 ∧ zL τ3 = zL σ1 := by subst f3 f2; exact ⟨rfl, rfl, rfl, rfl⟩
  have g2 : ∀ y, ¬ y = a → zI τ3 y = zI σ1 y := fun y hy => by subst f3 f2; exact funext fun j => by rw [zI_stI, if_neg (fun q => hy q.1)]; rfl
  have g3 : ∀ y, ¬ y = b' → zP τ3 y = zP σ1 y := fun y hy => by subst f3 f2; exact funext fun j => by rw [zP_stI, zP_stP, if_neg (fun q => hy q.1)]
  have g4 : zI τ3 a 2 = iI (n + 1) := by subst f3; rw [zI_stI, if_pos ⟨rfl, rfl⟩, show (1 : Int32) = iI 1 from rfl, iI_add]
  have g5 : zP τ3 b' n = some r := by subst f3 f2; rw [zP_stI, zP_stP, if_pos ⟨rfl, rfl⟩]
  have g6 : ∀ i, i < n → zP τ3 b' i = zP σ b i := fun i hi => by subst f3 f2; rw [zP_stI, zP_stP, if_neg (fun q => by omega)]; exact e10 i hi
  have hs : ∀ y, y < zN σ → ¬ y = a → (b = g 1 ∨ ¬ y = b) → Sm σ τ3 y := fun y hy hya hyb => by
    have hyb' : ¬ y = b' := fun q => by
      rcases e7 with ⟨r1, r2, -⟩ | ⟨r1, -⟩
      · rcases hyb with r | r
        · exact r2 r
        · exact r (q.trans r1)
      · omega
    refine ⟨by rw [g1.2.2.1]; exact (e2 y hy).1, by rw [g1.2.2.2]; exact (e2 y hy).2, by rw [g2 y hya]; exact e3 y hy hya, ?_⟩
    rw [g3 y hyb']
    exact funext fun j => e4 y j hy (fun q => hya q.1)
  have hca : crd σ a = 120 * (64 - n) := by
    unfold crd
    rw [aK, if_neg (by omega), if_pos rfl, h1, hn, ← iI_nat, nI_clamp (by omega)]
  have hca3 : crd τ3 a = 120 * (64 - (n + 1)) := by
    unfold crd
    rw [g1.2.2.1, k1.1, aK, if_neg (by omega), if_pos rfl, g4, show ((n : Int) + 1) = ((n + 1 : Nat) : Int) from rfl, ← iI_nat, nI_clamp (by omega)]
  have hcr : ∀ y, y < zN σ → ¬ y = a → crd τ3 y = crd σ y := fun y hy hya => by
    refine crd_of (by rw [g1.2.2.1]; exact (e2 y hy).1) (fun q => ?_) (fun q => by rw [g2 y hya, e3 y hy hya])
    have hyb' : ¬ y = b' := fun r => by
      have := (e2 y hy).1
      rw [r] at this
      rw [r] at q
      omega
    rw [g3 y hyb']
    refine ⟨e4 y 0 hy (fun q => hya q.1), fun z hzz => ?_⟩
    rw [g1.2.2.2]
    exact (e2 z (hC.2.2.2.2.2.2.2.2.2.2 y z q hzz)).2
  have hpot : pot τ3 + 120 = pot σ := by
    rcases e1.1 with r | r
    · have := pot_upd0 (σ := σ) (τ := τ3) aO.2.1 (by omega) hcr
      omega
    · have hN0 : crd τ3 (zN σ) = 0 := by
        rcases e7 with ⟨r1, r2, r3⟩ | ⟨r1, r2⟩
        · omega
        · unfold crd
          rw [g1.2.2.1, ← r1, e8]
          rfl
      have := pot_upd (σ := σ) (τ := τ3) aO.2.1 (by omega) hcr hN0
      omega
  have hU := hC.1
  have hO' : O b' ∧ b' < zN τ3 ∧ yK c b' = 0 := by
    rcases e7 with ⟨r1, r2, -⟩ | ⟨r1, r2⟩
    · obtain ⟨s1, s2, s3⟩ := bK r2
      rw [r1]
      exact ⟨s2, by omega, s3⟩
    · rw [r1]
      exact ⟨hC.2.2.2.2.2.2.2.2.2.1 _ (Nat.le_refl _), by omega, Decidable.of_not_not fun q => by have := (hC.2.2.1 _ q).2.1; omega⟩
  have hlen : (yE c a ++ [r]).length = n + 1 := by rw [List.length_append, hn]; rfl
  have := CI_list (u := yU c - 100) (l := yE c a ++ [r]) (τ := τ3) hC hz hk hb (by omega) hs (by rw [g1.2.2.1]; omega) (fun q => by rw [g1.2.2.1, (e2 b bN).1, (bK q).1]; omega) (fun y hy => by
    rw [g1.2.2.1]
    by_cases q : y = b'
    · rw [q]; omega
    · intro r
      by_cases q2 : zN σ1 ≤ y
      · rw [hz1 y q2] at r; omega
      · rcases e7 with ⟨r1, r2, r3⟩ | ⟨r1, r2⟩
        · omega
        · omega) ⟨b', by rw [g3 a (fun q => hb'a q.symm)]; exact e6, Or.inr ⟨hO'.1, hO'.2.1, by rw [g1.2.2.1]; exact e8, hO'.2.2⟩, by rw [hlen, g1.2.2.2]; omega, by rw [hlen]; exact g4, fun i hi => ?_⟩ (by
    rw [g3 a (fun q => hb'a q.symm), e6]
    rcases e7 with ⟨r1, r2, -⟩ | ⟨r1, r2⟩
    · exact Or.inl (by rw [r1])
    · exact Or.inr ⟨b', rfl, by omega⟩) (by omega)
  · exact ⟨wU (wE c a (yE c a ++ [r])) (yU c - 100), by show yU c - 100 ≤ B; omega, this.1, this.2, h⟩
  · rw [hlen] at hi
    rw [g1.2.2.1]
    by_cases q : i = n
    · rw [q, ← hn, getDn_app_eq, hn]
      exact ⟨g5, by omega, by omega⟩
    · rw [getDn_app_lt (by omega), g6 i (by omega)]
      obtain ⟨s1, s2, s3⟩ := h2 i (by omega)
      have : (yE c a).getD i 0 < zN σ := by
        apply Decidable.of_not_not
        intro q
        rw [hz _ (by omega)] at s2
        omega
      rw [(e2 _ this).1]
      exact ⟨s1, s2, s3⟩
theorem t166 {r : Nat} (hk : yK c a = 1) (hr : 1 ≤ yK c r ∧ yK c r ≤ 9) (hl : (yE c a).length < 64) (h : Q (Sum.inl (some (.int (iI 1)))) (wU (wE c a (yE c a ++ [r])) (yU c - 100))) : CW g B O 166 0 [some (.ref a), some (.ref r)] [] c Q := by
  intro hB σ hC
  refine WP.ok (fun hz => ?_)
  obtain ⟨b, hb, hbk, ⟨q1, q2, q3⟩, h1, h2⟩ := hC.2.2.2.2.1 a hk
  have aK := hC.kind hk (by omega)
  have aO := hC.2.2.1 a (by omega)
  have hg := hC.2.2.2.2.2.2.2.2.1.2.1.2.2
  have bK : (b = g 1 ∧ zK σ b = 1003 ∧ zL σ b = 0) ∨ (zK σ b = 104 ∧ b < zN σ ∧ ¬ b = g 1) := by
    rcases hbk with r | ⟨r1, r2, r3, r4⟩
    · rw [← r] at hg
      exact Or.inl ⟨r, hg.1, hg.2⟩
    · exact Or.inr ⟨r3, r2, fun q => by rw [← q] at hg; omega⟩
  have hca : crd σ a = 120 * (64 - (yE c a).length) := by
    unfold crd
    rw [aK, if_neg (by omega), if_pos rfl, h1, ← iI_nat, nI_clamp (by omega)]
  have hp := crd_le_pot aO.2.1
  have hU := hC.1
  have hba : ¬ b = a := fun q => by rw [q] at bK; omega
  refine b166_0 ⟨aK, aK, fun τ1 e1 => ?_⟩
  have f1 : zN τ1 = zN σ ∧ zS τ1 = zS σ ∧ zK τ1 = zK σ ∧ zL τ1 = zL σ ∧ zP τ1 = zP σ := by subst e1; exact ⟨rfl, rfl, rfl, rfl, rfl⟩
  have f2 : ∀ y, ¬ y = a → zI τ1 y = zI σ y := fun y hy => by subst e1; exact funext fun j => by rw [zI_stI, if_neg (fun q => hy q.1)]
  have f3 : ∀ j, ¬ j = 0 → zI τ1 a j = zI σ a j := fun j hj => by subst e1; rw [zI_stI, if_neg (fun q => hj q.2)]
  have hz1 : zOK τ1 := by subst e1; exact hz
  have hsz : zI τ1 a 2 = nI (yE c a).length := by rw [f3 2 (by omega), h1, iI_nat]
  have aK1 : zK τ1 a = 1 := by rw [f1.2.2.1]; exact aK
  have hb1 : zP τ1 a 1 = some b := by rw [f1.2.2.2.2]; exact hb
  refine ⟨aK1, b, hb1, aK1, aK1, ?_⟩
  rw [hsz]
  refine b165_0 ⟨?_, fun q => ?_, fun q => ⟨aK1, ?_⟩⟩
  · rw [f1.2.2.1]; omega
  · rw [f1.2.2.2.1, iI_nat, iI_nat, iI_eq (by omega) (by omega)] at q
    have bK' : zK σ b = 104 ∧ b < zN σ ∧ ¬ b = g 1 := bK.resolve_left (fun r => by omega)
    rw [iI_nat]
    exact t165 hB hC hz hk hb hr rfl hl ⟨Or.inl f1.1, by omega⟩ (fun y _ => ⟨by rw [f1.2.2.1], by rw [f1.2.2.2.1]⟩) (fun y _ hy => f2 y hy) (fun y j _ _ => by rw [f1.2.2.2.2]) f3 hb1 (Or.inl ⟨rfl, bK'.2.2, f1.1⟩) (by rw [f1.2.2.1]; exact bK'.1) (by rw [f1.2.2.2.1]; omega) (fun i _ => by rw [f1.2.2.2.2]) hz1 h
  · have q := Decidable.of_not_not q
    rw [f1.2.2.2.1, iI_nat, iI_nat, iI_eq (by omega) (by omega)] at q
    refine p160 aK1 (by omega) hb1 hsz (by rw [f1.2.2.2.1]; omega) hl ?_ (fun i hi => ?_) (by omega) (by omega) hz1 (fun τ r1 r2 r3 r4 r5 r6 r7 r8 => b165_10 ?_)
    · rw [f1.2.2.1]
      rcases bK with r | r
      · exact Or.inl ⟨r.1, by omega, r.2.1⟩
      · by_cases q0 : (yE c a).length = 0
        · omega
        · exact Or.inr ⟨r.1, by omega, by omega⟩
    · rw [f1.2.2.2.2, (h2 i hi).1]
      have hh := (h2 i hi).2
      unfold okP
      rw [f1.2.2.1]
      simp only [hh.1, hh.2, decide_true, Bool.and_self]
    · rw [iI_nat]
      rw [f1.1] at r1 r2 r3 r4 r5 r6 r7 ⊢
      exact t165 hB hC hz hk hb hr rfl hl ⟨Or.inr r1.1, by omega⟩ (fun y hy => ⟨by rw [(r2 y (by omega)).1, f1.2.2.1], by rw [(r2 y (by omega)).2.1, f1.2.2.2.1]⟩) (fun y hy hya => by rw [(r2 y (by omega)).2.2]; exact f2 y hya) (fun y j hy hj => by rw [r3 y j (by omega) hj, f1.2.2.2.2]) (fun j hj => by rw [(r2 a (by omega)).2.2]; exact f3 j hj) r4 (Or.inr ⟨rfl, r1.1⟩) r5 r6 (fun i hi => by rw [r7 i hi, f1.2.2.2.2]) r8 h
end LMeth
