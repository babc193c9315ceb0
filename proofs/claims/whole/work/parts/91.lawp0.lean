/-! the pure state at the start, and behind the two constructors -/
def jx (g : Nat → Nat) (base a : Nat) : Nat → Nat
  | 0 => 10
  | n + 1 => if a = g (base + n) then n else jx g base a n
theorem jx_hit {g : Nat → Nat} {base : Nat} (hi : ∀ i j, i < 10 → j < 10 → g (base + i) = g (base + j) → i = j) : ∀ n j, n ≤ 10 → j < n → jx g base (g (base + j)) n = j
  | 0, j, _, h => absurd h (Nat.not_lt_zero _)
  | n + 1, j, hn, h => by
    unfold jx
    by_cases e : g (base + j) = g (base + n)
    · rw [if_pos e]
      exact (hi j n (by omega) (by omega) e).symm
    · rw [if_neg e]
      exact jx_hit hi n j (by omega) (by have : ¬ j = n := fun q => e (by rw [q]); omega)
theorem jx_in {g : Nat → Nat} {base a : Nat} : ∀ n, n ≤ 10 → jx g base a n < 10 → a = g (base + jx g base a n)
  | 0, _, h => absurd h (by unfold jx; omega)
  | n + 1, hn, h => by
    unfold jx at h ⊢
    by_cases e : a = g (base + n)
    · rw [if_pos e]
      exact e
    · rw [if_neg e] at h ⊢
      exact jx_in n (by omega) h
def kz (g : Nat → Nat) (a : Nat) : Nat := if a = g 0 then 1002 else if a = g 1 then 1003 else if jx g 100 a 10 < 10 then 1000 else if jx g 200 a 10 < 10 then 1001 else 0
def sig0 (g : Nat → Nat) (h0 : Nat) : PS := (h0, 8 * h0, kz g, fun a => if a = g 0 then 20 else if a = g 1 then 0 else sLen (jx g 200 a 10), fun a i => if a = g 0 then need i else if jx g 100 a 10 < 10 then 0 else sByt (jx g 200 a 10) i, fun a i => if i = 0 ∧ jx g 100 a 10 < 10 then some (g (200 + jx g 100 a 10)) else none)
theorem sig_start {g : Nat → Nat} {h0 : Nat} (hG : GOK g h0) : zOK (sig0 g h0) ∧ cOK g (sig0 g h0) ∧ (∀ a, zK (sig0 g h0) a = 0 ∨ 1000 ≤ zK (sig0 g h0) a) ∧ ∀ O : Nat → Prop, (∀ a, O a → h0 ≤ a) → EnC g O (sig0 g h0) := by
  obtain ⟨⟨l0, l1, l2⟩, d01, dS, dX, iK, iV⟩ := hG
  have eK : ∀ j, j < 10 → jx g 100 (g (100 + j)) 10 = j := fun j hj => jx_hit iK 10 j (Nat.le_refl _) hj
  have eV : ∀ j, j < 10 → jx g 200 (g (200 + j)) 10 = j := fun j hj => jx_hit iV 10 j (Nat.le_refl _) hj
  have nV : ∀ j, j < 10 → ¬ jx g 100 (g (200 + j)) 10 < 10 := fun j hj q => dX j _ hj q (jx_in 10 (Nat.le_refl _) q)
  have d10 : ¬ g 1 = g 0 := fun e => d01 e.symm
  have kK : ∀ j, j < 10 → zK (sig0 g h0) (g (100 + j)) = 1000 ∧ zP (sig0 g h0) (g (100 + j)) 0 = some (g (200 + j)) ∧ zI (sig0 g h0) (g (100 + j)) 1 = 0 := by
    intro j hj
    obtain ⟨⟨a1, a2⟩, -⟩ := dS j hj
    refine ⟨?_, ?_, ?_⟩
    · show kz g (g (100 + j)) = 1000
      unfold kz
      rw [if_neg a1, if_neg a2, if_pos (by rw [eK j hj]; exact hj)]
    · show (if 0 = 0 ∧ jx g 100 (g (100 + j)) 10 < 10 then some (g (200 + jx g 100 (g (100 + j)) 10)) else none) = _
      rw [if_pos ⟨rfl, by rw [eK j hj]; exact hj⟩, eK j hj]
    · show (if g (100 + j) = g 0 then need 1 else if jx g 100 (g (100 + j)) 10 < 10 then 0 else sByt (jx g 200 (g (100 + j)) 10) 1) = 0
      rw [if_neg a1, if_pos (by rw [eK j hj]; exact hj)]
  have kV : ∀ j, j < 10 → zK (sig0 g h0) (g (200 + j)) = 1001 ∧ zL (sig0 g h0) (g (200 + j)) = sLen j ∧ ∀ i, zI (sig0 g h0) (g (200 + j)) i = sByt j i := by
    intro j hj
    obtain ⟨-, a1, a2⟩ := dS j hj
    refine ⟨?_, ?_, fun i => ?_⟩
    · show kz g (g (200 + j)) = 1001
      unfold kz
      rw [if_neg a1, if_neg a2, if_neg (nV j hj), if_pos (by rw [eV j hj]; exact hj)]
    · show (if g (200 + j) = g 0 then 20 else if g (200 + j) = g 1 then 0 else sLen (jx g 200 (g (200 + j)) 10)) = _
      rw [if_neg a1, if_neg a2, eV j hj]
    · show (if g (200 + j) = g 0 then need i else if jx g 100 (g (200 + j)) 10 < 10 then 0 else sByt (jx g 200 (g (200 + j)) 10) i) = _
      rw [if_neg a1, if_neg (nV j hj), eV j hj]
  have k0 : zK (sig0 g h0) (g 0) = 1002 ∧ zL (sig0 g h0) (g 0) = 20 ∧ ∀ i, zI (sig0 g h0) (g 0) i = need i := ⟨if_pos rfl, if_pos rfl, fun i => if_pos rfl⟩
  have k1 : zK (sig0 g h0) (g 1) = 1003 ∧ zL (sig0 g h0) (g 1) = 0 := by
    refine ⟨?_, ?_⟩
    · show kz g (g 1) = 1003
      unfold kz
      rw [if_neg d10, if_pos rfl]
    · show (if g 1 = g 0 then 20 else if g 1 = g 1 then 0 else sLen (jx g 200 (g 1) 10)) = 0
      rw [if_neg d10, if_pos rfl]
  have cases5 : ∀ a, a = g 0 ∨ a = g 1 ∨ (∃ j, j < 10 ∧ a = g (100 + j)) ∨ (∃ j, j < 10 ∧ a = g (200 + j)) ∨ zK (sig0 g h0) a = 0 := by
    intro a
    by_cases q0 : a = g 0
    · exact Or.inl q0
    · by_cases q1 : a = g 1
      · exact Or.inr (Or.inl q1)
      · by_cases q2 : jx g 100 a 10 < 10
        · exact Or.inr (Or.inr (Or.inl ⟨_, q2, jx_in 10 (Nat.le_refl _) q2⟩))
        · by_cases q3 : jx g 200 a 10 < 10
          · exact Or.inr (Or.inr (Or.inr (Or.inl ⟨_, q3, jx_in 10 (Nat.le_refl _) q3⟩)))
          · refine Or.inr (Or.inr (Or.inr (Or.inr ?_)))
            show kz g a = 0
            unfold kz
            rw [if_neg q0, if_neg q1, if_neg q2, if_neg q3]
  refine ⟨fun a ha => ?_, fun a ha => ?_, fun a => ?_, fun O hO => ⟨⟨fun q => absurd (hO _ q) (by omega), l0, k0.1, k0.2.1, fun i _ => k0.2.2 i⟩, ⟨fun q => absurd (hO _ q) (by omega), l1, k1.1, k1.2⟩, fun j hj => ⟨⟨fun q => absurd (hO _ q) (by have := l2 j hj; omega), (l2 j hj).1, kK j hj⟩, fun q => absurd (hO _ q) (by have := l2 j hj; omega), (l2 j hj).2, (kV j hj).1, (kV j hj).2.1, fun i _ => (kV j hj).2.2 i⟩⟩⟩
  · have ha : h0 ≤ a := ha
    rcases cases5 a with q | q | ⟨j, hj, q⟩ | ⟨j, hj, q⟩ | q
    · omega
    · omega
    · have := l2 j hj; omega
    · have := l2 j hj; omega
    · exact q
  · rcases cases5 a with rfl | rfl | ⟨j, hj, rfl⟩ | ⟨j, hj, rfl⟩ | q
    · exact Or.inr (Or.inr (Or.inl ⟨k0.1, rfl, k0.2.1, fun i _ => k0.2.2 i⟩))
    · exact Or.inr (Or.inr (Or.inr ⟨k1.1, rfl, k1.2⟩))
    · exact Or.inl ⟨(kK j hj).1, j, hj, rfl, (kK j hj).2⟩
    · exact Or.inr (Or.inl ⟨(kV j hj).1, j, hj, rfl, (kV j hj).2.1, fun i _ => (kV j hj).2.2 i⟩)
    · rw [q] at ha
      omega
  · rcases cases5 a with rfl | rfl | ⟨j, hj, rfl⟩ | ⟨j, hj, rfl⟩ | q
    · exact Or.inr (by rw [k0.1]; decide)
    · exact Or.inr (by rw [k1.1]; decide)
    · exact Or.inr (by rw [(kK j hj).1]; decide)
    · exact Or.inr (by rw [(kV j hj).1]; decide)
    · exact Or.inl q
theorem CI_start {g : Nat → Nat} {h0 : Nat} (hG : GOK g h0) : CI g (fun a => h0 ≤ a) (sig0 g h0) (8 * h0, fun _ => 0, fun _ _ => 0, fun _ _ => none, fun _ => [], fun _ => []) := by
  obtain ⟨hz, -, hk, hE⟩ := sig_start hG
  have hc : ∀ a, crd (sig0 g h0) a = 0 := fun a => by
    unfold crd
    have := hk a
    rw [if_neg (by omega), if_neg (by omega)]
  have hp : pot (sig0 g h0) = 0 := by
    unfold pot
    have e := sumN_ext (f := fun _ => 0) (f' := crd (sig0 g h0)) (n := 0) (fun a h => absurd h (Nat.not_lt_zero _)) (fun a _ => hc a) (zN (sig0 g h0))
    rw [Nat.zero_add] at e
    exact e
  refine ⟨⟨by rw [hp]; exact Nat.le_refl (8 * h0), by rw [hp]; exact Nat.le_refl (8 * h0)⟩, fun a j => ⟨by show -2147483648 ≤ (0 : Int); decide, by show (0 : Int) ≤ 2147483647; decide⟩, fun a ha => absurd rfl ha, fun a ha => absurd (show (0 : Nat) = 7 from ha) (by decide), fun a ha => absurd (show (0 : Nat) = 1 from ha) (by decide), fun a ha => absurd rfl ha.1, fun a a' b ha => absurd (show (0 : Nat) = 7 from ha) (by decide), fun a a' b ha => absurd (show (0 : Nat) = 1 from ha) (by decide), hE _ (fun a h => h), fun a ha => ha, fun a b ha => ?_⟩
  have := hk a
  omega
theorem rs0 : rsN 0 ≤ 59000 ∧ rsN 25 = 0 ∧ fN 8 ≤ 40 ∧ fN 7 ≤ 20 := by decide
theorem jL_25 : ∀ t, t < 25 → 0 < rl (jL.getD t 0) ∧ ixj (jL.getD t 0) = t := by decide
/-- the class is made -/
theorem mk_cls {g : Nat → Nat} {h0 : Nat} (hG : GOK g h0) : ∃ N τ, run g (zN τ + 1) (zS τ + 6) N 66 0 [some (.ref h0)] [] (alO (sig0 g h0) 8 (fN 7)) = some (Sum.inl none, τ) ∧ zOK τ ∧ (∃ d A, CI g (fun a => h0 ≤ a) τ d ∧ XE (8 * h0) d h0 A st0) ∧ zN (alO (sig0 g h0) 8 (fN 7)) ≤ zN τ ∧ zS (alO (sig0 g h0) 8 (fN 7)) ≤ zS τ := by
  obtain ⟨hz, -, hk, hE⟩ := sig_start hG
  have hC := CI_start hG
  obtain ⟨q1, q2, q3⟩ := CI_new (τ := alO (sig0 g h0) 8 (fN 7)) (κ := 8) (n := 0) (cost := fN 7 + 8) (N := fN 7) hC (hz _ (Nat.le_refl _)) (by unfold plK; decide) (by omega) rfl rfl (by omega) (fun b hb => ⟨by rw [zK_alO, if_neg hb], rfl, funext fun j => by rw [zI_alO, if_neg hb], funext fun j => by rw [zP_alO, if_neg hb]⟩) (by rw [zK_alO, if_pos rfl]) (fun j => by rw [zI_alO, if_pos rfl]) (fun j => by rw [zP_alO, if_pos rfl]) (fun q => by omega)
  have hf7 := rs0.2.2.2
  obtain ⟨N, r, τ, hrun, hz', d, hd, hC', hF, rfl, A, hX⟩ := k66 (g := g) (B := 8 * h0 + 2000000) (U := 8 * h0) (O := fun a => h0 ≤ a) (x := h0) (Q := fun r d => r = Sum.inl none ∧ ∃ A, XE (8 * h0) d h0 A st0) (c := wN (8 * h0, fun _ => 0, fun _ _ => 0, fun _ _ => none, fun _ => [], fun _ => []) (zN (sig0 g h0)) 8 0 (fN 7 + 8)) (if_pos rfl) (by show 8 * h0 + (fN 7 + 8) ≤ 8 * h0 + 100; omega) (Nat.le_refl _) (fun d A h => ⟨rfl, A, h⟩) (by show 8 * h0 + (fN 7 + 8) ≤ 8 * h0 + 2000000; omega) _ q1 (zOK_alO hz)
  have hmo := run_mo _ _ _ _ _ _ _ _ _ _ _ hrun
  exact ⟨N, τ, run_tight hrun, hz', ⟨d, A, hC', hX⟩, hmo.1, hmo.2⟩
/-- and the reference -/
theorem mk_ref {g : Nat → Nat} {h0 : Nat} {τ : PS} {d : CS} {A : Nat → Nat} (hz : zOK τ) (hC : CI g (fun a => h0 ≤ a) τ d) (hX : XE (8 * h0) d h0 A st0) (hN : h0 ≤ zN τ) (hS : 8 * h0 ≤ zS τ) : ∃ N υ, run g (zN υ + 1) (zS υ + 6) N 91 0 [some (.ref (zN τ))] [] (alO τ 9 (fN 8)) = some (Sum.inl none, υ) ∧ LJ g h0 (zN υ + 1, zS υ + 1, υ.2.2) h0 (zN τ) 0 st0 st0 0 ∧ zN υ = zN τ + 26 ∧ zS υ = zS τ + fN 8 + rsN 0 := by
  have kz9 : zK (alO τ 9 (fN 8)) (zN τ) = 9 := by rw [zK_alO, if_pos rfl]
  have h91 : C91 (alO τ 9 (fN 8)) (alO τ 9 (fN 8)) (zN τ) (zN τ + 1) 0 := ⟨⟨kz9, rfl, rfl, Nat.lt_succ_self _, rfl⟩, fun j _ hi => absurd hi (Nat.not_lt_zero _), fun a _ _ => Sm.rfl⟩
  obtain ⟨N, r, υ, hrun, hz', rfl, h⟩ := m91 (g := g) (C := zN τ + 1 + 25) (S := zS (alO τ 9 (fN 8)) + rsN 0) (Q := fun r υ => r = Sum.inl none ∧ C91 (alO τ 9 (fN 8)) υ (zN τ) (zN τ + 1) 25) h91 (Nat.le_refl _) (Nat.le_refl _) (fun υ h => ⟨rfl, h⟩) (zOK_alO hz)
  have hri := h.ri (fun j _ => by rw [zI_alO, if_pos rfl])
  obtain ⟨⟨a1, a2, a3, a4, a5⟩, a6, a7⟩ := h
  have a3 : zS υ + rsN 25 = zS τ + fN 8 + rsN 0 := a3
  obtain ⟨b1, b2, b3, b4⟩ := rs0
  have eN : zN υ = zN τ + 26 := by omega
  have sm : ∀ a, a < zN τ → Sm τ υ a := fun a ha => by
    have hb : ¬ a = zN τ := by omega
    have s1 : Sm τ (alO τ 9 (fN 8)) a := ⟨by rw [zK_alO, if_neg hb], rfl, funext fun j => by rw [zI_alO, if_neg hb], funext fun j => by rw [zP_alO, if_neg hb]⟩
    exact s1.trans (a7 a (by omega) hb)
  refine ⟨N, υ, run_tight hrun, ⟨fun a ha => hz' a (by have ha : zN υ + 1 ≤ a := ha; omega), ⟨wU d (yU d + 60000), A, ?_, ?_⟩, ⟨_, _, fun j x => ⟨by decide, by decide⟩, hri, st0_MI, rfl, fun j hj => ?_⟩, hN, ?_, hz' _ (by omega), ?_⟩, eN, by omega⟩
  · refine CI_keep hC hz (show zN τ ≤ zN υ + 1 by omega) (fun a ha => ⟨(sm a ha).1, (sm a ha).2.1⟩) (fun a ha _ => sm a ha) (fun a ha => ?_) (fun a ha => ⟨fun q => q.1, fun q => ⟨q, by omega⟩⟩) (fun a ha => ?_) ⟨?_, ?_⟩
    · show ¬ zK υ a = 7 ∧ ¬ zK υ a = 1
      rcases Nat.lt_or_ge a (zN υ) with q | q
      · by_cases e : a = zN τ
        · rw [e, a1]
          exact ⟨by decide, by decide⟩
        · obtain ⟨t, ht, e2⟩ : ∃ t, t < 25 ∧ a = zN τ + 1 + t := ⟨a - (zN τ + 1), by omega, by omega⟩
          obtain ⟨j1, j2⟩ := jL_25 t ht
          obtain ⟨-, k2, -⟩ := a6 _ j1 (by rw [j2]; exact ht)
          rw [j2, ← e2] at k2
          rw [k2]
          exact ⟨by decide, by decide⟩
      · rw [hz' a q]
        exact ⟨by decide, by decide⟩
    · have ha : zN υ + 1 ≤ a := ha
      exact ⟨by omega, by omega⟩
    · show zS υ + 1 ≤ zS τ + 60000
      omega
    · show 8 * (zN υ + 1) ≤ 8 * zN τ + 60000
      omega
  · have e : UL h0 0 = 8 * h0 + 60000 := rfl
    rw [e]
    exact XE_up hX
  · have := ixj_lt hj
    show zN τ < zN τ + 1 + ixj j ∧ zN τ + 1 + ixj j < zN τ + 26
    omega
  · show zN τ + 27 ≤ zN υ + 1
    omega
  · show 8 * h0 ≤ zS υ + 1
    omega
