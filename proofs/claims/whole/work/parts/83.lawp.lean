/-! the heap grows around the class -/
theorem sumN_ext {f f' : Nat → Nat} {n : Nat} (h : ∀ a, a < n → f' a = f a) (h0 : ∀ a, n ≤ a → f' a = 0) : ∀ k : Nat, sumN f' (n + k) = sumN f n
  | 0 => sumN_congr h
  | k + 1 => by
    show sumN f' (n + k) + f' (n + k) = _
    rw [sumN_ext h h0 k, h0 (n + k) (by omega)]
    omega
theorem CI_keep {g : Nat → Nat} {O O' : Nat → Prop} {σ τ : PS} {c : CS} {k : Nat} (h : CI g O σ c) (hz : zOK σ) (hN : zN σ ≤ zN τ) (hK : ∀ a, a < zN σ → zK τ a = zK σ a ∧ zL τ a = zL σ a)
    (hS : ∀ a, a < zN σ → (¬ zK σ a = 9 ∧ ¬ zK σ a = 101) ∨ O' a → Sm σ τ a) (hnew : ∀ a, zN σ ≤ a → ¬ zK τ a = 7 ∧ ¬ zK τ a = 1) (hO : ∀ a, a < zN σ → (O' a ↔ O a)) (hO2 : ∀ a, zN τ ≤ a → O' a)
    (hk : zS τ ≤ zS σ + k ∧ 8 * zN τ ≤ 8 * zN σ + k) : CI g O' τ (wU c (yU c + k)) := by
  obtain ⟨⟨u1, u2⟩, hR, h3, hT, hL, hp, d7, d1, hE, hA, hB⟩ := h
  have hlt : ∀ a, ¬ zK σ a = 0 → a < zN σ := fun a ha => by
    rcases Nat.lt_or_ge a (zN σ) with q | q
    · exact q
    · exact absurd (hz a q) ha
  have hcr : ∀ a, a < zN σ → crd τ a = crd σ a := fun a ha => crd_of (hK a ha).1 (fun e => ⟨by rw [(hS a ha (Or.inl (by omega))).2.2.2], fun b hb => (hK b (hB a b e hb)).2⟩) (fun e => by rw [(hS a ha (Or.inl (by omega))).2.2.1])
  have hpot : pot τ = pot σ := by
    obtain ⟨q, hq⟩ : ∃ q, zN τ = zN σ + q := ⟨zN τ - zN σ, by omega⟩
    unfold pot
    rw [hq]
    exact sumN_ext hcr (fun a ha => by unfold crd; rw [if_neg (hnew a ha).1, if_neg (hnew a ha).2]) q
  have hcl : ∀ a, ¬ yK c a = 0 → Sm σ τ a := fun a ha => hS a (h3 a ha).2.1 (Or.inr ((hO a (h3 a ha).2.1).mpr (h3 a ha).1))
  refine ⟨⟨by rw [hpot]; show zS τ + 2 * pot σ ≤ yU c + k; omega, by rw [hpot]; show 8 * zN τ + pot σ ≤ yU c + k; omega⟩, hR, fun a ha => ?_, fun a ha => ?_, fun a ha => ?_, fun a ha => ?_, fun a a' b ha ha' hb hb' => ?_, fun a a' b ha ha' hb hb' => ?_, ?_, hO2, fun a b ha hb => ?_⟩
  · obtain ⟨q1, q2, q3⟩ := h3 a ha
    exact ⟨(hO a q2).mpr q1, by omega, (hK a q2).1.trans q3⟩
  · have ha : yK c a = 7 := ha
    obtain ⟨b, h1, ⟨h2, h3', h4, h5⟩, h6, h7, h8⟩ := hT a ha
    have sa := hcl a (by omega)
    have sb := hS b h3' (Or.inl (by omega))
    exact ⟨b, by rw [sa.2.2.2]; exact h1, ⟨(hO b h3').mpr h2, by omega, sb.1.trans h4, h5⟩, by rw [sb.2.1]; exact h6, by rw [sa.2.2.1]; exact h7, fun i hi => by rw [sb.2.2.1]; exact h8 i hi⟩
  · have ha : yK c a = 1 := ha
    obtain ⟨b, h1, h2, h6, h7, h8⟩ := hL a ha
    have sa := hcl a (by omega)
    have sb : Sm σ τ b := by
      rcases h2 with rfl | q
      · exact hS _ hE.2.1.2.1 (Or.inl (by have := hE.2.1.2.2.1; omega))
      · exact hS _ q.2.1 (Or.inl (by omega))
    refine ⟨b, by rw [sa.2.2.2]; exact h1, ?_, by rw [sb.2.1]; exact h6, by rw [sa.2.2.1]; exact h7, fun i hi => ?_⟩
    · rcases h2 with q | ⟨q1, q2, q3, q4⟩
      · exact Or.inl q
      · exact Or.inr ⟨(hO b q2).mpr q1, by omega, sb.1.trans q3, q4⟩
    · obtain ⟨q1, q2, q3⟩ := h8 i hi
      have q1 : zP σ b i = some ((yE c a).getD i 0) := q1
      have q2 : 1 ≤ zK σ ((yE c a).getD i 0) := q2
      have q3 : zK σ ((yE c a).getD i 0) ≤ 9 := q3
      show zP τ b i = some ((yE c a).getD i 0) ∧ 1 ≤ zK τ ((yE c a).getD i 0) ∧ zK τ ((yE c a).getD i 0) ≤ 9
      rw [sb.2.2.2, (hK _ (hlt _ (by omega))).1]
      exact ⟨q1, q2, q3⟩
  · have sa := hcl a ha.1
    obtain ⟨q1, q2⟩ := hp a ha
    exact ⟨fun j => by rw [sa.2.2.1, sa.2.2.2]; exact q1 j, fun q => by rw [sa.2.1]; exact q2 q⟩
  · have ha : yK c a = 7 := ha
    have ha' : yK c a' = 7 := ha'
    rw [(hcl a (by omega)).2.2.2] at hb
    rw [(hcl a' (by omega)).2.2.2] at hb'
    exact d7 a a' b ha ha' hb hb'
  · have ha : yK c a = 1 := ha
    have ha' : yK c a' = 1 := ha'
    rw [(hcl a (by omega)).2.2.2] at hb
    rw [(hcl a' (by omega)).2.2.2] at hb'
    exact d1 a a' b ha ha' hb hb'
  · obtain ⟨⟨a1, a2, a3, a4, a5⟩, ⟨b1, b2, b3, b4⟩, hs⟩ := hE
    refine ⟨?_, ?_, fun j hj => ?_⟩
    · obtain ⟨e1, e2, e3, e4⟩ := hS _ a2 (Or.inl (by omega))
      exact ⟨fun q => a1 ((hO _ a2).mp q), by omega, e1.trans a3, e2.trans a4, fun i hi => by rw [e3]; exact a5 i hi⟩
    · obtain ⟨e1, e2, e3, e4⟩ := hS _ b2 (Or.inl (by omega))
      exact ⟨fun q => b1 ((hO _ b2).mp q), by omega, e1.trans b3, e2.trans b4⟩
    · obtain ⟨⟨c1, c2, c3, c4, c5⟩, f1, f2, f3, f4, f5⟩ := hs j hj
      obtain ⟨e1, e2, e3, e4⟩ := hS _ c2 (Or.inl (by omega))
      obtain ⟨l1, l2, l3, l4⟩ := hS _ f2 (Or.inl (by omega))
      exact ⟨⟨fun q => c1 ((hO _ c2).mp q), by omega, e1.trans c3, by rw [e4]; exact c4, by rw [e3]; exact c5⟩, fun q => f1 ((hO _ f2).mp q), by omega, l1.trans f3, l2.trans f4, fun i hi => by rw [l3]; exact f5 i hi⟩
  · have hl : a < zN σ := by
      rcases Nat.lt_or_ge a (zN σ) with q | q
      · exact q
      · exact absurd ha (hnew a q).1
    have hk7 : zK σ a = 7 := (hK a hl).1.symm.trans ha
    rw [(hS a hl (Or.inl (by omega))).2.2.2] at hb
    exact Nat.lt_of_lt_of_le (hB a b hk7 hb) hN
theorem XE_up {U k x : Nat} {c : CS} {A : Nat → Nat} {s : ST} (h : XE U c x A s) : XE (U + k) (wU c (yU c + k)) x A s := by
  obtain ⟨ℓ, Es, Rs, h1, h2, h3, h4⟩ := h
  exact ⟨ℓ, Es, Rs, h1, h2, h3, by show yU c + k ≤ U + k + 74400 + 37000 * Es.length + 40200 * Rs.length; omega⟩
/-! THE LAW'S STATE: the class at s1, the reference at s2 with its last thrown() t -/
def OL (h0 m : Nat) : Nat → Prop := fun a => h0 ≤ a ∧ ¬ (m ≤ a ∧ a < m + 27)
def UL (h0 n : Nat) : Nat := 8 * h0 + 60000 + 20 * n
def LJ (g : Nat → Nat) (h0 : Nat) (σ : PS) (x m n : Nat) (s1 s2 : ST) (t : Int) : Prop :=
  zOK σ ∧ (∃ c A, CI g (OL h0 m) σ c ∧ XE (UL h0 n) c x A s1) ∧ (∃ A v, VR v ∧ RI m A σ v ∧ MI v s2 ∧ v 0 0 = t ∧ ∀ j, 0 < rl j → m < A j ∧ A j < m + 26) ∧ (h0 ≤ m ∧ m + 27 ≤ zN σ ∧ zK σ (m + 26) = 0 ∧ 8 * h0 ≤ zS σ)
section LawP
variable {g : Nat → Nat} {h0 x m n : Nat} {σ : PS} {s1 s1' s2 s2' : ST} {t t' : Int}
theorem XE.bd {U : Nat} {c : CS} {A : Nat → Nat} {B : Nat} (h : XE U c x A s1) (hB : U + 2000000 ≤ B) : yU c ≤ B := by
  obtain ⟨ℓ, Es, Rs, h⟩ := h
  have := (h.u hB).1
  omega
theorem LJ.room (h : LJ g h0 σ x m n s1 s2 t) (hn : n ≤ 49) : zN σ ≤ h0 + 257700 ∧ zS σ ≤ 8 * h0 + 2061600 := by
  obtain ⟨hz, ⟨c, A, hC, hX⟩, -, -⟩ := h
  have hU := hX.bd (B := 8 * h0 + 2061600) (by unfold UL; omega)
  have := hC.1
  omega
theorem LJ.kx (h : LJ g h0 σ x m n s1 s2 t) : zK σ x = 8 ∧ x < zN σ := by
  obtain ⟨hz, ⟨c, A, hC, ℓ, Es, Rs, hX⟩, -, -⟩ := h
  have h8 : yK c x = 8 := hX.2.2.1.1.1.1
  obtain ⟨q1, q2, q3⟩ := hC.2.2.1 x (by omega)
  exact ⟨by omega, q2⟩
theorem LJ.km (h : LJ g h0 σ x m n s1 s2 t) : zK σ m = 9 := by
  obtain ⟨-, -, ⟨A, v, hv, hR, -⟩, -⟩ := h
  exact hR.1.1
theorem LJ_cls {kc : Nat} {ls : LV} {r : Rs} (hn : n ≤ 48) (h : LJ g h0 σ x m n s1 s2 t)
    (hk : ∀ (U : Nat) (c : CS) (ℓ : LB) (A : Nat → Nat) (Es Rw : List Nat) (B : Nat) (O : Nat → Prop) (Q : Rs → CS → Prop), XI U c ℓ x A Es Rw s1 → U + 2000000 ≤ B → (∀ d, XE U d x A s1' → Q r d) → CW g B O kc 0 ls [] c Q) :
    ∃ N τ, run g (zN τ + 1) (zS τ + 6) N kc 0 ls [] σ = some (r, τ) ∧ LJ g h0 τ x m n s1' s2 t ∧ zN σ ≤ zN τ ∧ zS σ ≤ zS τ := by
  obtain ⟨hz, ⟨c, A, hC, hX⟩, ⟨A2, v, hv, hR, hM, ht, hA2⟩, hm, hm2, ho, hs⟩ := h
  have hB : UL h0 n + 2000000 ≤ 8 * h0 + 2061600 := by unfold UL; omega
  have hU := hX.bd hB
  obtain ⟨ℓ, Es, Rs, hX⟩ := hX
  obtain ⟨N, r', τ, hrun, hz', d, hd, hC', hF, rfl, hX'⟩ := hk (UL h0 n) c ℓ A Es Rs _ (OL h0 m) (fun r' d => r' = r ∧ XE (UL h0 n) d x A s1') hX hB (fun d hd => ⟨rfl, hd⟩) hU σ hC hz
  have hmo := run_mo _ _ _ _ _ _ _ _ _ _ _ hrun
  have hsm : ∀ a, m ≤ a → a < m + 27 → Sm σ τ a := fun a h1 h2 => hF.1 a (by omega) (fun q => q.2 ⟨h1, h2⟩)
  refine ⟨N, τ, run_tight hrun, ⟨hz', ⟨d, A, hC', hX'⟩, ⟨A2, v, hv, ?_, hM, ht, hA2⟩, hm, by omega, (hsm (m + 26) (by omega) (by omega)).1.trans ho, by omega⟩, hmo.1, hmo.2⟩
  obtain ⟨⟨r1, r2⟩, r3, r4⟩ := hR
  have e := hsm m (by omega) (by omega)
  refine ⟨⟨e.1.trans r1, fun j hj => by rw [e.2.2.1]; exact r2 j hj⟩, fun j hj => ?_, r4⟩
  obtain ⟨q1, q2, q3, q4⟩ := r3 j hj
  have e2 := hsm (A2 j) (by have := hA2 j hj; omega) (by have := hA2 j hj; omega)
  exact ⟨by rw [e.2.2.2]; exact q1, e2.1.trans q2, e2.2.1.trans q3, fun i hi => by rw [e2.2.2.1]; exact q4 i hi⟩
theorem LJ_bump {N' S' : Nat} (h : LJ g h0 σ x m n s1 s2 t) (hN : zN σ ≤ N' ∧ N' ≤ zN σ + 1) (hS : zS σ ≤ S' ∧ S' ≤ zS σ + 6) : LJ g h0 (N', S', σ.2.2) x m (n + 1) s1 s2 t := by
  obtain ⟨hz, ⟨c, A, hC, hX⟩, ⟨A2, v, hv, hR, hM, ht, hA2⟩, hm, hm2, ho, hs⟩ := h
  refine ⟨fun a ha => hz a (Nat.le_trans hN.1 ha), ⟨wU c (yU c + 20), A, ?_, ?_⟩, ⟨A2, v, hv, hR, hM, ht, hA2⟩, hm, Nat.le_trans hm2 hN.1, ho, Nat.le_trans hs hS.1⟩
  · refine CI_keep hC hz hN.1 (fun a _ => ⟨rfl, rfl⟩) (fun a _ _ => Sm.rfl) (fun a ha => ?_) (fun _ _ => Iff.rfl) (fun a ha => ?_) ⟨?_, ?_⟩
    · have : zK σ a = 0 := hz a ha
      show ¬ zK σ a = 7 ∧ ¬ zK σ a = 1
      omega
    · have ha : N' ≤ a := ha
      exact ⟨by omega, by omega⟩
    · show S' ≤ zS σ + 20
      omega
    · show 8 * N' ≤ 8 * zN σ + 20
      omega
  · have e : UL h0 (n + 1) = UL h0 n + 20 := by unfold UL; omega
    rw [e]
    exact XE_up hX
theorem LJ_ref {kr : Nat} {ls : LV} {r : Rs} (h : LJ g h0 σ x m n s1 s2 t)
    (hs : ∀ (C S : Nat) (A : Nat → Nat) (v : VS) (Q : Rs → VS → Prop), MI v s2 → v 0 0 = t → (∀ w, w 0 0 = t' → MI w s2' → Q r w) → RW g C S m A kr 0 ls [] v Q) :
    ∃ N τ, run g (zN τ + 1) (zS τ + 6) N kr 0 ls [] σ = some (r, τ) ∧ LJ g h0 τ x m n s1 s2' t' ∧ zN τ = zN σ ∧ zS τ = zS σ := by
  obtain ⟨hz, ⟨c, A, hC, hX⟩, ⟨A2, v, hv, hR, hM, ht, hA2⟩, hm, hm2, ho, hs0⟩ := h
  obtain ⟨N, r', τ, hrun, hz', w, hw, hR', hF, rfl, ht', hM'⟩ := hs 0 0 A2 v (fun r' w => r' = r ∧ w 0 0 = t' ∧ MI w s2') hM ht (fun w h1 h2 => ⟨rfl, h1, h2⟩) hv σ hR hz
  obtain ⟨e1, e2, e3, e4, e5, e6⟩ := hF
  refine ⟨N, τ, run_tight hrun, ⟨hz', ⟨wU c (yU c + 0), A, ?_, XE_up (k := 0) hX⟩, ⟨A2, w, hw, hR', hM', ht', hA2⟩, hm, by rw [e1]; exact hm2, by rw [e3]; exact ho, by rw [e2]; exact hs0⟩, e1, e2⟩
  refine CI_keep hC hz (Nat.le_of_eq e1.symm) (fun a _ => ⟨by rw [e3], by rw [e4]⟩) (fun a ha hq => ⟨by rw [e3], by rw [e4], e6 a ?_ ?_, by rw [e5]⟩) (fun a ha => ?_) (fun _ _ => Iff.rfl) (fun a ha => ?_) ⟨by omega, by omega⟩
  · rintro rfl
    have := hR.1.1
    rcases hq with q | q
    · omega
    · exact q.2 ⟨by omega, by omega⟩
  · rintro j hj rfl
    have := (hR.2.1 j hj).2.1
    have := hA2 j hj
    rcases hq with q | q
    · omega
    · exact q.2 ⟨by omega, by omega⟩
  · rw [e3]
    have := hz a ha
    omega
  · rw [e1] at ha
    exact ⟨by omega, by omega⟩
end LawP
