/-! how the class's state follows the pure one -/
section CStep
variable {g : Nat → Nat} {B : Nat} {O : Nat → Prop} {σ : PS} {c : CS} {a : Nat}
theorem CI.hid (h : CI g O σ c) {a b : Nat} (ha : yK c a = 7) (hb : zP σ a 0 = some b) : yK c b = 0 ∧ zK σ b = 102 ∧ O b ∧ b < zN σ := by
  obtain ⟨b', e, ⟨e1, e2, e3, e4⟩, -⟩ := h.2.2.2.1 a ha
  rw [hb] at e
  cases e
  exact ⟨e4, e3, e1, e2⟩
theorem CI.hidL (h : CI g O σ c) {a b : Nat} (ha : yK c a = 1) (hb : zP σ a 1 = some b) : b = g 1 ∨ (yK c b = 0 ∧ zK σ b = 104 ∧ O b ∧ b < zN σ) := by
  obtain ⟨b', e, e1, -⟩ := h.2.2.2.2.1 a ha
  rw [hb] at e
  cases e
  exact e1.imp id (fun q => ⟨q.2.2.2, q.2.2.1, q.1, q.2.1⟩)
theorem CI.kind (h : CI g O σ c) {a κ : Nat} (ha : yK c a = κ) (hκ : ¬ κ = 0) : zK σ a = κ := by rw [(h.2.2.1 a (by rw [ha]; exact hκ)).2.2, ha]
theorem CI.g1 (h : CI g O σ c) : yK c (g 1) = 0 := Decidable.of_not_not fun q => h.2.2.2.2.2.2.2.2.1.2.1.1 (h.2.2.1 _ q).1
theorem iI_0 : (0 : Int32) = iI 0 := by decide
/-- stores into a plain object -/
theorem CI_stI {j : Nat} {x : Int} (h : CI g O σ c) (ha : plK (yK c a)) (hx : -2147483648 ≤ x ∧ x ≤ 2147483647) : CI g O (stI σ a j (iI x)) (wI c a j x) ∧ CF O σ (stI σ a j (iI x)) := by
  have hO := h.2.2.1 a ha.1
  have hs : ∀ b, ¬ b = a → Sm σ (stI σ a j (iI x)) b := fun b hb => ⟨rfl, rfl, funext fun i => by show (if b = a ∧ i = j then _ else _) = _; rw [if_neg (fun q => hb q.1)], rfl⟩
  have hF : CF O σ (stI σ a j (iI x)) := ⟨fun b _ hb => hs b (fun q => hb (q ▸ hO.1)), Nat.le_refl _⟩
  refine ⟨?_, hF⟩
  obtain ⟨h1, h2, h3, h4, h5, h6, h7, h8, h9, h10⟩ := h
  have hc : ∀ b, crd (stI σ a j (iI x)) b = crd σ b := fun b => crd_of rfl (fun _ => ⟨rfl, fun _ _ => rfl⟩) (fun e => by
    have hb : ¬ b = a := fun q => by subst q; have := hO.2.2; have := ha.2.1; omega
    rw [(hs b hb).2.2.1])
  refine ⟨by rw [pot_same (σ := σ) (τ := stI σ a j (iI x)) rfl (fun b _ => hc b)]; exact h1, fun b i => ?_, h3, fun b hb => ?_, fun b hb => ?_, fun b hb => ⟨fun i => ⟨?_, ((h6 b hb).1 i).2⟩, fun q => ?_⟩, h7, h8, h9.kept hF, h10.1, h10.2⟩
  · show _ ≤ (if b = a ∧ i = (j : Int) then x else yI c b i) ∧ (if b = a ∧ i = (j : Int) then x else yI c b i) ≤ _
    split
    · exact hx
    · exact h2 b i
  · have hb1 : yK c b = 7 := hb
    refine (h4 b hb).kept (hs b (fun q => by subst q; exact ha.2.2 hb)) (Nat.le_refl _) (fun b' hb' => ?_)
    obtain ⟨e1, -⟩ := CI.hid (g := g) (O := O) ⟨h1, h2, h3, h4, h5, h6, h7, h8, h9, h10⟩ hb1 hb'
    exact ⟨hs b' (fun q => by subst q; exact ha.1 e1), e1⟩
  · have hb1 : yK c b = 1 := hb
    have hC : CI g O σ c := ⟨h1, h2, h3, h4, h5, h6, h7, h8, h9, h10⟩
    refine (h5 b hb).kept (hs b (fun q => by subst q; exact ha.2.1 hb)) (Nat.le_refl _) (fun b' hb' => ?_) (fun _ _ _ => rfl)
    rcases hC.hidL hb1 hb' with e | ⟨e1, -⟩
    · exact ⟨hs b' (fun q => by subst q; rw [e] at ha; exact ha.1 hC.g1), Or.inl e⟩
    · exact ⟨hs b' (fun q => by subst q; exact ha.1 e1), Or.inr e1⟩
  · show (if b = a ∧ i = j then iI x else zI σ b i) = iI (if b = a ∧ (i : Int) = (j : Int) then x else yI c b i)
    by_cases e : b = a ∧ i = j
    · rw [if_pos e, if_pos ⟨e.1, by rw [e.2]⟩]
    · rw [if_neg e, if_neg (fun q => e ⟨q.1, by omega⟩)]
      exact ((h6 b hb).1 i).1
  · show _ = (if b = a ∧ (-1 : Int) = (j : Int) then x else yI c b (-1))
    rw [if_neg (fun q => by omega)]
    exact (h6 b hb).2 q
theorem CI_stP {j : Nat} {x : Option Nat} (h : CI g O σ c) (ha : plK (yK c a)) : CI g O (stP σ a j x) (wP c a j x) ∧ CF O σ (stP σ a j x) := by
  have hO := h.2.2.1 a ha.1
  have hs : ∀ b, ¬ b = a → Sm σ (stP σ a j x) b := fun b hb => ⟨rfl, rfl, rfl, funext fun i => by show (if b = a ∧ i = j then _ else _) = _; rw [if_neg (fun q => hb q.1)]⟩
  have hF : CF O σ (stP σ a j x) := ⟨fun b _ hb => hs b (fun q => hb (q ▸ hO.1)), Nat.le_refl _⟩
  refine ⟨?_, hF⟩
  have hC := h
  obtain ⟨h1, h2, h3, h4, h5, h6, h7, h8, h9, h10⟩ := h
  have h7' : ∀ b, yK c b = 7 → zP (stP σ a j x) b = zP σ b := fun b hb => (hs b (fun q => by subst q; exact ha.2.2 hb)).2.2.2
  have h1' : ∀ b, yK c b = 1 → zP (stP σ a j x) b = zP σ b := fun b hb => (hs b (fun q => by subst q; exact ha.2.1 hb)).2.2.2
  have hc : ∀ b, crd (stP σ a j x) b = crd σ b := fun b => crd_of rfl (fun e => by
    have hb : ¬ b = a := fun q => by subst q; have := hO.2.2; have := ha.2.2; omega
    rw [(hs b hb).2.2.2]
    exact ⟨rfl, fun _ _ => rfl⟩) (fun e => rfl)
  refine ⟨by rw [pot_same (σ := σ) (τ := stP σ a j x) rfl (fun b _ => hc b)]; exact h1, h2, h3, fun b hb => ?_, fun b hb => ?_, fun b hb => ⟨fun i => ⟨((h6 b hb).1 i).1, ?_⟩, (h6 b hb).2⟩, fun b b' y e1 e2 e3 e4 => ?_, fun b b' y e1 e2 e3 e4 => ?_, h9.kept hF, h10.1, fun b y e1 e2 => ?_⟩
  · have hb1 : yK c b = 7 := hb
    refine (h4 b hb).kept (hs b (fun q => by subst q; exact ha.2.2 hb)) (Nat.le_refl _) (fun b' hb' => ?_)
    obtain ⟨e1, -⟩ := hC.hid hb1 hb'
    exact ⟨hs b' (fun q => by subst q; exact ha.1 e1), e1⟩
  · have hb1 : yK c b = 1 := hb
    refine (h5 b hb).kept (hs b (fun q => by subst q; exact ha.2.1 hb)) (Nat.le_refl _) (fun b' hb' => ?_) (fun _ _ _ => rfl)
    rcases hC.hidL hb1 hb' with e | ⟨e1, -⟩
    · exact ⟨hs b' (fun q => by subst q; rw [e] at ha; exact ha.1 hC.g1), Or.inl e⟩
    · exact ⟨hs b' (fun q => by subst q; exact ha.1 e1), Or.inr e1⟩
  · show (if b = a ∧ i = j then x else zP σ b i) = (if b = a ∧ (i : Int) = (j : Int) then x else yP c b i)
    by_cases e : b = a ∧ i = j
    · rw [if_pos e, if_pos ⟨e.1, by rw [e.2]⟩]
    · rw [if_neg e, if_neg (fun q => e ⟨q.1, by omega⟩)]
      exact ((h6 b hb).1 i).2
  · have q1 : yK c b = 7 := e1
    have q2 : yK c b' = 7 := e2
    rw [h7' b q1] at e3
    rw [h7' b' q2] at e4
    exact h7 b b' y q1 q2 e3 e4
  · have q1 : yK c b = 1 := e1
    have q2 : yK c b' = 1 := e2
    rw [h1' b q1] at e3
    rw [h1' b' q2] at e4
    exact h8 b b' y q1 q2 e3 e4
  · have hb : ¬ b = a := fun q => by subst q; have e1' : zK σ b = 7 := e1; have := hO.2.2; have := ha.2.2; omega
    rw [(hs b hb).2.2.2] at e2
    exact h10.2 b y e1 e2
/-- a new cell at the heap's end: τ is σ there -/
theorem CI_new {τ : PS} {κ n cost N : Nat} (h : CI g O σ c) (hz0 : zK σ (zN σ) = 0) (hκ : plK κ) (hn : n ≤ 100000) (hN : zN τ = zN σ + 1) (hS : zS τ = zS σ + N) (hc : N ≤ cost ∧ 8 ≤ cost) (hs : ∀ b, ¬ b = zN σ → Sm σ τ b) (hK : zK τ (zN σ) = κ) (hI : ∀ i, zI τ (zN σ) i = 0) (hP : ∀ i, zP τ (zN σ) i = none) (hL : κ = 101 ∨ κ = 103 → zL τ (zN σ) = n) :
    CI g O τ (wN c (zN σ) κ n cost) ∧ CF O σ τ ∧ yK c (zN σ) = 0 := by
  have hF : CF O σ τ := ⟨fun b hb _ => hs b (by omega), by omega⟩
  have h0 : yK c (zN σ) = 0 := Decidable.of_not_not fun q => by have := (h.2.2.1 _ q).2.1; omega
  refine ⟨?_, hF, h0⟩
  have hC := h
  obtain ⟨h1, h2, h3, h4, h5, h6, h7, h8, h9, h10⟩ := h
  have hz : ∀ b, b < zN σ → ¬ b = zN σ := fun b hb => by omega
  have hc0 : crd τ (zN σ) = 0 := by
    unfold crd
    rw [hK, if_neg hκ.2.2, if_neg hκ.2.1]
  have hp : pot τ = pot σ := by
    rw [pot_new hN (fun b hb => crd_of (hs b (hz b hb)).1 (fun e => ⟨by rw [(hs b (hz b hb)).2.2.2], fun y hy => (hs y (hz y (h10.2 b y e hy))).2.1⟩) (fun _ => by rw [(hs b (hz b hb)).2.2.1])), hc0]
    rfl
  have hk : ∀ b, ¬ b = zN σ → yK (wN c (zN σ) κ n cost) b = yK c b := fun b hb => by show (if b = zN σ then _ else _) = _; rw [if_neg hb]
  have hk0 : yK (wN c (zN σ) κ n cost) (zN σ) = κ := by show (if _ = _ then _ else _) = _; rw [if_pos rfl]
  have hn7 : ∀ b, yK (wN c (zN σ) κ n cost) b = 7 → ¬ b = zN σ ∧ yK c b = 7 := fun b hb => by
    have : ¬ b = zN σ := fun q => by rw [q, hk0] at hb; exact hκ.2.2 hb
    exact ⟨this, by rw [← hk b this]; exact hb⟩
  have hn1 : ∀ b, yK (wN c (zN σ) κ n cost) b = 1 → ¬ b = zN σ ∧ yK c b = 1 := fun b hb => by
    have : ¬ b = zN σ := fun q => by rw [q, hk0] at hb; exact hκ.2.1 hb
    exact ⟨this, by rw [← hk b this]; exact hb⟩
  refine ⟨?_, fun b i => ?_, fun b hb => ?_, fun b hb => ?_, fun b hb => ?_, fun b hb => ?_, fun b b' y e1 e2 e3 e4 => ?_, fun b b' y e1 e2 e3 e4 => ?_, h9.kept hF, fun b hb => h10.1 b (by omega), fun b y e1 e2 => ?_⟩
  · show zS τ + 2 * pot τ ≤ yU c + cost ∧ 8 * zN τ + pot τ ≤ yU c + cost
    rw [hp, hN, hS]
    omega
  · show _ ≤ (if b = zN σ then (if i = -1 then (n : Int) else 0) else yI c b i) ∧ (if b = zN σ then (if i = -1 then (n : Int) else 0) else yI c b i) ≤ _
    split
    · split
      · omega
      · omega
    · exact h2 b i
  · by_cases e : b = zN σ
    · rw [e, hk0]
      exact ⟨h10.1 _ (Nat.le_refl _), by omega, hK⟩
    · rw [hk b e] at hb ⊢
      obtain ⟨q1, q2, q3⟩ := h3 b hb
      exact ⟨q1, by omega, by rw [(hs b e).1]; exact q3⟩
  · obtain ⟨e, e'⟩ := hn7 b hb
    show TxR O τ _ b (if b = zN σ then [] else yT c b)
    rw [if_neg e]
    refine (h4 b e').kept (hs b e) (by omega) (fun b' hb' => ?_)
    obtain ⟨q1, q2, q3, q4⟩ := hC.hid e' hb'
    exact ⟨hs b' (by omega), by rw [hk b' (by omega)]; exact q1⟩
  · obtain ⟨e, e'⟩ := hn1 b hb
    show LsR g O τ _ b (if b = zN σ then [] else yE c b)
    rw [if_neg e]
    have hg := h9.2.1
    refine (h5 b e').kept (hs b e) (by omega) (fun b' hb' => ?_) (fun x hx _ => (hs x (fun q => by rw [q, hz0] at hx; omega)).1)
    rcases hC.hidL e' hb' with q | ⟨q1, q2, q3, q4⟩
    · exact ⟨hs b' (by rw [q]; omega), Or.inl q⟩
    · exact ⟨hs b' (by omega), Or.inr (by rw [hk b' (by omega)]; exact q1)⟩
  · by_cases e : b = zN σ
    · subst e
      refine ⟨fun i => ⟨?_, ?_⟩, fun q => ?_⟩
      · rw [hI]
        show _ = iI (if zN σ = zN σ then (if (i : Int) = -1 then (n : Int) else 0) else yI c (zN σ) i)
        rw [if_pos rfl, if_neg (by omega)]
        rfl
      · rw [hP]
        show _ = (if zN σ = zN σ then none else yP c (zN σ) i)
        rw [if_pos rfl]
      · rw [hk0] at q
        rw [hL q]
        show _ = (if zN σ = zN σ then (if (-1 : Int) = -1 then (n : Int) else 0) else yI c (zN σ) (-1))
        rw [if_pos rfl, if_pos rfl]
    · rw [hk b e] at hb ⊢
      obtain ⟨q1, q2, q3, q4⟩ := hs b e
      obtain ⟨r1, r2⟩ := h6 b hb
      refine ⟨fun i => ⟨?_, ?_⟩, fun q => ?_⟩
      · rw [q3, (r1 i).1]
        show _ = iI (if b = zN σ then _ else yI c b i)
        rw [if_neg e]
      · rw [q4, (r1 i).2]
        show _ = (if b = zN σ then _ else yP c b i)
        rw [if_neg e]
      · rw [q2, r2 q]
        show _ = (if b = zN σ then _ else yI c b (-1))
        rw [if_neg e]
  · obtain ⟨q1, q1'⟩ := hn7 b e1
    obtain ⟨q2, q2'⟩ := hn7 b' e2
    rw [(hs b q1).2.2.2] at e3
    rw [(hs b' q2).2.2.2] at e4
    exact h7 b b' y q1' q2' e3 e4
  · obtain ⟨q1, q1'⟩ := hn1 b e1
    obtain ⟨q2, q2'⟩ := hn1 b' e2
    rw [(hs b q1).2.2.2] at e3
    rw [(hs b' q2).2.2.2] at e4
    exact h8 b b' y q1' q2' e3 e4
  · have hb : ¬ b = zN σ := fun q => by rw [q, hK] at e1; exact hκ.2.2 e1
    rw [(hs b hb).1] at e1
    rw [(hs b hb).2.2.2] at e2
    have := h10.2 b y e1 e2
    omega
end CStep
