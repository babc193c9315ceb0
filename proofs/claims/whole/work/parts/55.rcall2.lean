theorem rng_get {α : Type} {f : Nat → α} {d : α} {n k : Nat} (h : k < n) : ((List.range n).map f).getD k d = f k := by
  rw [List.getD_eq_getElem?_getD, List.getElem?_map, List.getElem?_range h]
  rfl
section RCall2
variable {g : Nat → Nat} {C S m : Nat} {A : Nat → Nat} {v : VS} {Q : Rs → VS → Prop} {s : ST}
theorem s141 (hI : MI v s) (h : ∀ w, w 0 0 = (x6 s).1 → MI w (x6 s).2.2 → Q (Sum.inl (some (.int (iI (x6 s).2.1)))) w) : RW g C S m A 141 0 [some (.ref m), none] [] v Q := by
  have hS := SK6 hI.1
  have hD := hI.1.1
  have hd := hD.1
  have hFn := hI.1.2.1.2
  obtain ⟨h8, h11, h12⟩ := hI.2.2.2.1
  have hLb := hI.1.2.2.2.2.1
  have hDL := rowsOf_DL (D := qD s) (s := qS s) (F := qF s) hFn
  have hl := hDL.len
  refine v141_0 (fun w1 e1 => ?_)
  have f1 : ∀ j, ¬ j = 0 → w1 j = v j := fun j q => by rw [e1, uv_j q]
  have k0 : w1 0 0 = 0 := by rw [e1, uv_eq]
  refine s125 (s := qS s) (F := qF s) hD (hI.2.1.fr (fun j _ _ => f1 j (by omega))) (by have := hI.2.2.1; unfold Fst at *; rw [f1 9 (by decide), f1 10 (by decide)]; exact this) hFn (by rw [f1 11 (by decide)]; exact h11) hI.1.2.2.2.1 (fun w2 r2 f2 => v141_9 ?_)
  unfold x6 wRun runO at h hS
  generalize hLL : rowsOf (qD s) (qS s) (qF s) = L at *
  have fr : ∀ j, (j < 13 ∨ 23 < j) → ¬ j = 0 → ¬ j = 25 → ¬ j = 26 → w2 j = v j := fun j a1 a2 a3 a4 => by rw [f2 j a1 a3 a4, f1 j a2]
  have k02 : w2 0 0 = 0 := by rw [f2 0 (by decide) (by decide) (by decide)]; exact k0
  have hv2 : RDb w2 (qD s) := hI.2.1.fr (fun j _ _ => fr j (by omega) (by omega) (by omega) (by omega))
  have h12' : w2 12 0 = qL s := by rw [fr 12 (by decide) (by decide) (by decide) (by decide)]; exact h12
  have hbl : (basesOf (qD s) (qL s) L).length = L.length := List.length_map _
  -- bases
  have bl : ∀ (n k : Nat) (u : VS), L.length - k = n → k ≤ L.length → (∀ j, (j < 13 ∨ 23 < j) → ¬ j = 28 → ¬ j = 29 → u j = w2 j) → (∀ i : Nat, i < k → Bsx u i (base (qD s) (qL s) L (L.getD i 0))) → (∀ u : VS, (∀ j, (j < 13 ∨ 23 < j) → ¬ j = 28 → ¬ j = 29 → u j = w2 j) → (∀ i : Nat, i < L.length → Bsx u i (base (qD s) (qL s) L (L.getD i 0))) → RW g C S m A 131 0 [some (.ref m), none, none, none, none] [] u (VK g C S m A 141 34 [some (.ref m), some (.int (iI L.length))] [] Q)) → RW g C S m A 141 11 [some (.ref m), some (.int (iI k))] [] u Q := by
    intro n
    induction n with
    | zero =>
      intro k u k1 k2 g1 g2 hq
      have e25 : u 25 0 = L.length := by rw [g1 25 (by omega) (by omega) (by omega)]; exact r2.1
      have := hq u g1 (fun i hi => g2 i (by omega))
      rw [show L.length = k by omega] at this
      exact v141_11 ⟨fun _ => this, fun q => by omega⟩
    | succ n ih =>
      intro k u k1 k2 g1 g2 hq
      have r2u : Rws u L := by unfold Rws; rw [g1 25 (by omega) (by omega) (by omega), g1 26 (by omega) (by omega) (by omega)]; exact r2
      have e25 := r2u.1
      refine v141_11 ⟨fun q => by omega, fun _ => s129 (lb := qL s) hD (hv2.fr (fun j _ _ => g1 j (by omega) (by omega) (by omega))) r2u hDL.2 (by omega) (by rw [g1 12 (by omega) (by omega) (by omega)]; exact h12') (fun w b1 f => v141_24 ⟨by omega, ih (k + 1) w (by omega) (by omega) (fun j a1 a2 a3 => by rw [f.1 j a1 a2 a3]; exact g1 j a1 a2 a3) (fun i hi => ?_) hq⟩)⟩
      by_cases q : i = k
      · rw [q]; exact b1
      · obtain ⟨c1, c2, c3⟩ := g2 i (by omega)
        refine ⟨by rw [f.2.1 i (by omega)]; exact c1, c2, fun x hx => ?_⟩
        rw [f.2.2 _ (by omega)]
        exact c3 x hx
  refine bl _ 0 w2 rfl (Nat.zero_le _) (fun _ _ _ _ => rfl) (fun i hi => absurd hi (Nat.not_lt_zero _)) (fun u g1 g2 => ?_)
  have e25 : u 25 0 = L.length := by rw [g1 25 (by omega) (by omega) (by omega)]; exact r2.1
  refine s131 (Bs := basesOf (qD s) (qL s) L) (fun k hk => by rw [hbl] at hk; rw [bases_get hk]; exact g2 k hk) (by rw [hbl]; exact e25) (by rw [hbl]; omega) (fun w3 c27 f3 => v141_34 (fun w4 e4 => ?_))
  have f4 : ∀ j, (j < 13 ∨ 23 < j) → ¬ j = 28 → ¬ j = 29 → ¬ j = 27 → ¬ j = 32 → w4 j = w2 j := fun j a1 a2 a3 a4 a5 => by rw [e4, uv_j a5, f3 j a4, g1 j a1 a2 a3]
  have b4 : ∀ i : Nat, i < L.length → Bsx w4 i (base (qD s) (qL s) L (L.getD i 0)) := fun i hi => by
    have := g2 i hi
    unfold Bsx at *
    rw [e4, uv_j (by decide), uv_j (by decide), f3 28 (by decide), f3 29 (by decide)]
    exact this
  have c27' : ∀ k : Nat, k < L.length → w4 27 (k : Int) = (ltr (basesOf (qD s) (qL s) L) k : Int) := fun k hk => by
    rw [e4, uv_j (by decide)]
    exact c27 k (by rw [hbl]; exact hk)
  -- texts
  have tl : ∀ (n k : Nat) (u : VS), L.length - k = n → k ≤ L.length → (∀ j, (j < 13 ∨ 23 < j) → ¬ j = 30 → ¬ j = 31 → ¬ j = 37 → ¬ j = 32 → ¬ j = 33 → ¬ j = 34 → u j = w4 j) → (∀ i : Nat, i < k → Txx u i ((textsOf (qD s) (qL s) L).getD i [])) → Lks u (lacksOf (qD s) (L.take k)) → RW g C S m A 141 41 [some (.ref m), some (.int (iI k))] [] u Q := by
    intro n
    induction n with
    | zero =>
      intro k u k1 k2 g1 g2 g3
      have fu : ∀ j, (j < 13 ∨ 23 < j) → ¬ j = 28 → ¬ j = 29 → ¬ j = 27 → ¬ j = 30 → ¬ j = 31 → ¬ j = 37 → ¬ j = 32 → ¬ j = 33 → ¬ j = 34 → u j = w2 j := fun j a1 a2 a3 a4 a5 a6 a7 a8 a9 a10 => by rw [g1 j a1 a5 a6 a7 a8 a9 a10, f4 j a1 a2 a3 a4 a8]
      have r2u : Rws u L := by unfold Rws; rw [fu 25 (by omega) (by omega) (by omega) (by omega) (by omega) (by omega) (by omega) (by omega) (by omega) (by omega), fu 26 (by omega) (by omega) (by omega) (by omega) (by omega) (by omega) (by omega) (by omega) (by omega) (by omega)]; exact r2
      have e25 := r2u.1
      refine v141_41 ⟨fun _ w5 e5 => ?_, fun q => by omega⟩
      have f5 : ∀ j, ¬ j = 24 → w5 j = u j := fun j q => by rw [e5, uv_j q]
      rw [f5 25 (by decide), e25]
      have f6 : ∀ j, (1 ≤ j ∧ j ≤ 12) ∨ j = 35 ∨ j = 36 → w5 j = v j := fun j hj => by rw [f5 j (by omega), fu j (by omega) (by omega) (by omega) (by omega) (by omega) (by omega) (by omega) (by omega) (by omega) (by omega), fr j (by omega) (by omega) (by omega) (by omega)]
      rw [List.take_of_length_le (by omega)] at g3
      refine h w5 ?_ ⟨hS, hI.2.1.fr (fun j _ _ => f6 j (by omega)), ?_, ⟨by rw [f6 8 (by omega)]; exact h8, by rw [f6 11 (by omega)]; exact h11, by rw [f6 12 (by omega)]; exact h12⟩, ⟨?_, fun i hi => ⟨?_, ?_⟩, ?_, ?_⟩, ?_⟩
      · rw [f5 0 (by decide), fu 0 (by omega) (by omega) (by omega) (by omega) (by omega) (by omega) (by omega) (by omega) (by omega) (by omega)]; exact k02
      · have := hI.2.2.1
        unfold Fst at *
        show w5 9 0 = (qF s).length ∧ (qF s).length ≤ 24 ∧ ∀ i : Nat, i < (qF s).length → w5 10 i = ((qF s).getD i 0 : Nat)
        rw [f6 9 (by omega), f6 10 (by omega)]
        exact this
      · show Rws w5 L
        unfold Rws
        rw [f5 25 (by decide), f5 26 (by decide)]
        exact r2u
      · have hi : i < L.length := hi
        show w5 27 i = (((List.range L.length).map (ltr (basesOf (qD s) (qL s) L))).getD i 0 : Nat)
        rw [rng_get hi, f5 27 (by decide), g1 27 (by omega) (by omega) (by omega) (by omega) (by omega) (by omega) (by omega)]
        exact c27' i hi
      · have hi : i < L.length := hi
        have := g2 i (by omega)
        unfold Txx at *
        rw [f5 30 (by decide), f5 31 (by decide)]
        exact this
      · show Lks w5 (lacksOf (qD s) L)
        unfold Lks at *
        rw [f5 32 (by decide), f5 33 (by decide), f5 34 (by decide)]
        exact g3
      · rw [e5, uv_eq]; rfl
      · have := hI.2.2.2.2.2
        show w5 35 0 = (qO s).length ∧ Hd (w5 36) 0 (qO s)
        rw [f6 35 (by omega), f6 36 (by omega)]
        exact this
    | succ n ih =>
      intro k u k1 k2 g1 g2 g3
      have fu : ∀ j, (j < 13 ∨ 23 < j) → ¬ j = 28 → ¬ j = 29 → ¬ j = 27 → ¬ j = 30 → ¬ j = 31 → ¬ j = 37 → ¬ j = 32 → ¬ j = 33 → ¬ j = 34 → u j = w2 j := fun j a1 a2 a3 a4 a5 a6 a7 a8 a9 a10 => by rw [g1 j a1 a5 a6 a7 a8 a9 a10, f4 j a1 a2 a3 a4 a8]
      have r2u : Rws u L := by unfold Rws; rw [fu 25 (by omega) (by omega) (by omega) (by omega) (by omega) (by omega) (by omega) (by omega) (by omega) (by omega), fu 26 (by omega) (by omega) (by omega) (by omega) (by omega) (by omega) (by omega) (by omega) (by omega) (by omega)]; exact r2
      have e25 := r2u.1
      have hvu : RDb u (qD s) := hv2.fr (fun j _ _ => fu j (by omega) (by omega) (by omega) (by omega) (by omega) (by omega) (by omega) (by omega) (by omega) (by omega))
      have hb := b4 k (by omega)
      have hb3 := base_len hD (qL s) L (L.getD k 0)
      have hltr := ltr_le (basesOf (qD s) (qL s) L) k
      have hlk := lacks_len (qD s) (L.take k)
      rw [List.length_take] at hlk
      have htx : (textsOf (qD s) (qL s) L).getD k [] = txt (qD s) (qL s) k (base (qD s) (qL s) L (L.getD k 0)) (ltr (basesOf (qD s) (qL s) L) k) (L.getD k 0) := by
        unfold textsOf
        rw [rng_get (by omega), bases_get (by omega)]
      refine v141_41 ⟨fun q => by omega, fun _ => s138 (lt := ltr (basesOf (qD s) (qL s) L) k) (lb := qL s) (b := base (qD s) (qL s) L (L.getD k 0)) hD hvu r2u hDL.2 (by omega) ?_ ?_ hb3 ?_ (by omega) (fun w t1 f => ?_)⟩
      · rw [fu 12 (by omega) (by omega) (by omega) (by omega) (by omega) (by omega) (by omega) (by omega) (by omega) (by omega)]; exact h12'
      · unfold Bsx at *
        rw [g1 28 (by omega) (by omega) (by omega) (by omega) (by omega) (by omega) (by omega), g1 29 (by omega) (by omega) (by omega) (by omega) (by omega) (by omega) (by omega)]
        exact hb
      · rw [g1 27 (by omega) (by omega) (by omega) (by omega) (by omega) (by omega) (by omega)]; exact c27' k (by omega)
      · have e26 : w 26 k = (L.getD k 0 : Nat) := by rw [f.1 26 (by omega) (by omega) (by omega) (by omega)]; exact r2u.2.2 k (by omega)
        refine v141_54 ⟨by omega, ?_⟩
        rw [e26]
        refine s140 (M := lacksOf (qD s) (L.take k)) hD (f.db hvu) (hDL.2 _ (mem_gD (by omega))) (by
          unfold Lks at *
          rw [f.1 32 (by omega) (by omega) (by omega) (by omega), f.1 33 (by omega) (by omega) (by omega) (by omega), f.1 34 (by omega) (by omega) (by omega) (by omega)]
          exact g3) (by omega) (fun w' l1 f' => v141_64 ⟨by omega, ih (k + 1) w' (by omega) (by omega) (fun j a1 a2 a3 a4 a5 a6 a7 => by rw [f' j a5 a6 a7, f.1 j a1 a2 a3 a4]; exact g1 j a1 a2 a3 a4 a5 a6 a7) (fun i hi => ?_) ?_⟩)
        · have e30 : w' 30 = w 30 := f' 30 (by decide) (by decide) (by decide)
          have e31 : w' 31 = w 31 := f' 31 (by decide) (by decide) (by decide)
          unfold Txx
          rw [e30, e31]
          by_cases q : i = k
          · rw [q, htx]; exact t1
          · obtain ⟨c1, c2, c3⟩ := g2 i (by omega)
            refine ⟨by rw [f.2.1 i (by omega)]; exact c1, c2, fun x hx => ?_⟩
            rw [f.2.2 _ (by omega)]
            exact c3 x hx
        · have : lacksOf (qD s) (L.take (k + 1)) = lacksOf (qD s) (L.take k) ++ lck (qD s) (L.getD k 0) := by
            unfold lacksOf
            rw [take_snoc (d := 0) (by omega), List.flatMap_append]
            simp
          rw [this]
          exact l1
  exact tl _ 0 w4 rfl (Nat.zero_le _) (fun _ _ _ _ _ _ _ _ => rfl) (fun i hi => absurd hi (Nat.not_lt_zero _)) ⟨by rw [e4, uv_eq]; rfl, Nat.zero_le _, fun i hi => absurd hi (Nat.not_lt_zero _)⟩
theorem s142 {i : Int} (hi : -2147483648 ≤ i ∧ i ≤ 2147483647) (h1 : 0 ≤ i ∧ i < v 25 0 → Q (Sum.inl (some (.int (iI 1)))) v) (h2 : ¬ (0 ≤ i ∧ i < v 25 0) → Q (Sum.inl (some (.int (iI 0)))) v) : RW g C S m A 142 0 [some (.ref m), some (.int (iI i))] [] v Q :=
  v142_0 ⟨fun q => v142_16 (v142_17 ⟨Or.inl rfl, h2 (by omega)⟩), fun q => ⟨fun r => v142_16 (v142_17 ⟨Or.inl rfl, h2 (by omega)⟩), fun r => v142_17 ⟨Or.inr rfl, h1 (by omega)⟩⟩⟩
theorem s143 {i : Int} (hi : -2147483648 ≤ i ∧ i ≤ 2147483647) (hI : MI v s) (h : ∀ w, w 0 0 = (x7 s i).1 → MI w (x7 s i).2.2 → Q (Sum.inl (some (.int (iI (x7 s i).2.1)))) w) : RW g C S m A 143 0 [some (.ref m), some (.int (iI i))] [] v Q := by
  obtain ⟨r1, r2, r3⟩ := hI.2.2.2.2.1.1
  unfold x7 at h
  refine v143_0 (s142 hi (fun q => v143_6 ⟨fun r => by omega, fun _ => v143_14 (fun w1 e1 => ⟨fun _ => ⟨by omega, ?_⟩, fun r => by rw [e1, uv_eq] at r; omega⟩)⟩) (fun q => v143_6 ⟨fun _ => v143_14 (fun w1 e1 => ⟨fun r => by rw [e1, uv_eq] at r; omega, fun _ => v143_34 ?_⟩), fun r => absurd rfl r⟩))
  · rw [if_pos (by omega)] at h
    have h3 := r3 i.toNat (by omega)
    rw [Int.toNat_of_nonneg q.1] at h3
    have hm := hI.1.2.2.2.2.2.1.2.1 _ (mem_gD (d := 0) (show i.toNat < (oR (qR s)).length by omega))
    have e : w1 26 i = ((oR (qR s)).getD i.toNat 0 : Nat) := by rw [e1, uv_j (by decide)]; exact h3
    rw [e]
    exact v143_34 (h w1 (by rw [e1, uv_eq]) (hI.fr (FrV.z e1))) (hu0 := by omega)
  · rw [if_neg (by omega)] at h
    exact h w1 (by rw [e1, uv_eq]) (hI.fr (FrV.z e1))
theorem s144 {i : Int} (hi : -2147483648 ≤ i ∧ i ≤ 2147483647) (hI : MI v s) (h : ∀ w, w 0 0 = (x8 s i).1 → MI w (x8 s i).2.2 → Q (Sum.inl (some (.int (iI (x8 s i).2.1)))) w) : RW g C S m A 144 0 [some (.ref m), some (.int (iI i))] [] v Q := by
  obtain ⟨r1, r2, -⟩ := hI.2.2.2.2.1.1
  unfold x8 at h
  refine v144_0 (s142 hi (fun q => v144_6 ⟨fun r => by omega, fun _ => v144_14 (fun w1 e1 => ⟨fun _ => ⟨by omega, ?_⟩, fun r => by rw [e1, uv_eq] at r; omega⟩)⟩) (fun q => v144_6 ⟨fun _ => v144_14 (fun w1 e1 => ⟨fun r => by rw [e1, uv_eq] at r; omega, fun _ => v144_34 ?_⟩), fun r => absurd rfl r⟩))
  · rw [if_pos (by omega)] at h
    have h3 := (hI.2.2.2.2.1.2.1 i.toNat (by omega)).1
    rw [Int.toNat_of_nonneg q.1] at h3
    have hm := hI.1.2.2.2.2.2.1.2.2.2.2.2.1 _ (mem_gD (d := 0) (show i.toNat < (oE (qR s)).length by rw [hI.1.2.2.2.2.2.1.2.2.1]; omega))
    have e : w1 27 i = ((oE (qR s)).getD i.toNat 0 : Nat) := by rw [e1, uv_j (by decide)]; exact h3
    rw [e]
    exact v144_34 (h w1 (by rw [e1, uv_eq]) (hI.fr (FrV.z e1))) (hu0 := by omega)
  · rw [if_neg (by omega)] at h
    exact h w1 (by rw [e1, uv_eq]) (hI.fr (FrV.z e1))
theorem s145 {e p i : Int} (he : -2147483648 ≤ e ∧ e ≤ 2147483647) (hp : -2147483648 ≤ p ∧ p ≤ 2147483647) (hi : -2147483648 ≤ i ∧ i ≤ 2147483647) (hI : MI v s) (h : ∀ w, w 0 0 = (x9 s e p i).1 → MI w (x9 s e p i).2.2 → Q (Sum.inl (some (.int (iI (x9 s e p i).2.1)))) w) : RW g C S m A 145 0 [some (.ref m), some (.int (iI e)), some (.int (iI p)), some (.int (iI i))] [] v Q := by
  have h1 := hI.2.1.1
  have hd := hI.1.1.1
  unfold x9 at h
  refine v145_0 (s93 he (fun q => v145_6 ⟨fun r => by omega, fun _ => v145_14 (fun w1 e1 => ⟨fun _ => ?_, fun r => by rw [e1, uv_eq] at r; omega⟩)⟩) (fun q => v145_6 ⟨fun _ => v145_14 (fun w1 e1 => ⟨fun r => by rw [e1, uv_eq] at r; omega, fun _ => ?_⟩), fun r => absurd rfl r⟩))
  · rw [if_neg (by rw [Decidable.not_not]; exact ⟨q.1, by omega⟩)] at h
    have hI1 := hI.fr (FrV.z e1)
    have := s110 (g := g) (C := C) (S := S) (m := m) (A := A) (b := 0) (v := w1) (e := e.toNat) (Q := VK g C S m A 145 32 [some (.ref m), some (.int (iI e)), some (.int (iI p)), some (.int (iI i))] [] Q) hI1.1.1 hI1.2.1 (by omega) (Or.inl rfl) (fun w2 t2 n2 f2 => ?_)
    · rw [Int.toNat_of_nonneg q.1] at this
      exact this
    · have ht := val_ok hI.1.1 e.toNat 0
      generalize val (qD s) e.toNat 0 = t at *
      have hn := np40 ht.1
      have hI2 : MI w2 s := hI1.fr (f2.c.v trivial)
      have no : (p < 0 ∨ np t ≤ p) → ∀ {l1 : Option Value}, RW g C S m A 145 47 [some (.ref m), l1, some (.int (iI p)), some (.int (iI i))] [.ref m] w2 Q := fun hq l1 => by
        rw [if_pos hq] at h
        exact v145_47 (v145_52 (fun w3 e3 => ⟨fun r => by rw [e3, uv_eq] at r; omega, fun _ => h w3 (by rw [e3, uv_eq]) (hI2.fr (FrV.z e3))⟩))
      refine v145_32 ?_
      rw [n2]
      refine ⟨fun q1 => no (Or.inl q1), fun q1 => ⟨by decide, fun q2 => ?_, fun q2 => no (Or.inr q2)⟩⟩
      rw [if_neg (by omega)] at h
      refine v145_52 (fun w3 e3 => ⟨fun _ w4 e4 => ?_, fun r => by rw [e3, uv_eq] at r; omega⟩)
      obtain ⟨o4, f4⟩ := One.z e4
      have hI3 : MI w3 s := hI2.fr (FrV.z e3)
      have hI4 : MI w4 s := hI3.fr (f4.c.v trivial)
      have t4 : WdR w4 0 (tgs t) := by
        have : WdR w3 0 (tgs t) := by
          obtain ⟨c0, c1, c2, c3⟩ := t2
          have ko : ∀ j, ¬ j = 0 → w3 j = w2 j := fun j q => by rw [e3, uv_j q]
          refine ⟨c0, by rw [ko 14 (by decide)]; exact c1, c2, fun i hi => ?_⟩
          rw [ko 17 (by decide), ko 18 (by decide), ko 15 (by decide), ko 16 (by decide), ko 13 (by decide)]
          exact c3 i hi
        exact this.fr f4
      have x0' : sel (tgs t) p 0 = gv t p.toNat := by
        have := (tgs_sel t p.toNat).1
        rw [Int.toNat_of_nonneg q1] at this
        exact this
      have kg := (gv_K t p.toNat).len
      have il := inits_len (ws := gv t p.toNat)
      have hio := inits_ok (gv_K t p.toNat) ht.2
      refine s118 t4 hp o4 (by rw [x0']; show 0 + _ ≤ _; omega) (fun w5 o5 f5 => ?_)
      rw [x0', List.nil_append] at o5
      have hI5 : MI w5 s := hI4.fr (f5.c.v trivial)
      generalize inits (gv t p.toNat) = N at *
      have h21 := o5.1
      have bad : (i < -1 ∨ N.length ≤ i) → ∀ {l1 l2 : Option Value}, RW g C S m A 145 89 [some (.ref m), l1, l2, some (.int (iI i))] [.ref m] w5 Q := fun hq l1 l2 => by
        rw [if_neg (by omega), if_pos (by omega)] at h
        exact v145_89 (v145_94 (fun w6 e6 => ⟨fun r => by rw [e6, uv_eq] at r; omega, fun _ => v145_126 (h w6 (by rw [e6, uv_eq]) (hI5.fr (FrV.z e6)))⟩))
      refine v145_75 ⟨fun q3 => bad (Or.inl q3), fun q3 => ⟨fun q4 => v145_94 (fun w6 e6 => ⟨fun _ => ⟨fun q5 => ⟨by omega, ?_⟩, fun q5 => ?_⟩, fun r => by rw [e6, uv_eq] at r; omega⟩), fun q4 => bad (Or.inr (by omega))⟩⟩
      · rw [if_neg q5, if_neg (by omega)] at h
        have e20 : w6 20 i = N.getD i.toNat 0 := by rw [e6, uv_j (by decide)]; exact o5.2.at0 (by omega)
        have hr := hio _ (getD_mem (l := N) (i := i.toNat) (by omega))
        rw [e20]
        exact v145_126 (h w6 (by rw [e6, uv_eq]) (hI5.fr (FrV.z e6))) (hu0 := by unfold okc at hr; omega)
      · rw [if_pos q5] at h
        have e21 : w6 21 0 = N.length := by rw [e6, uv_j (by decide)]; exact h21
        rw [e21]
        exact v145_126 (h w6 (by rw [e6, uv_eq]) (hI5.fr (FrV.z e6))) (hu0 := by omega)
  · rw [if_pos (by omega)] at h
    exact h w1 (by rw [e1, uv_eq]) (hI.fr (FrV.z e1))
theorem s146 {i a : Int} (hi : -2147483648 ≤ i ∧ i ≤ 2147483647) (ha : -2147483648 ≤ a ∧ a ≤ 2147483647) (hI : MI v s) (h : ∀ w, w 0 0 = (x10 s i a).1 → MI w (x10 s i a).2.2 → Q (Sum.inl (some (.int (iI (x10 s i a).2.1)))) w) : RW g C S m A 146 0 [some (.ref m), some (.int (iI i)), some (.int (iI a))] [] v Q := by
  obtain ⟨m1, m2, m3⟩ := hI.2.2.2.2.1.2.2.1
  unfold x10 at h
  refine v146_0 (fun w1 e1 => ?_)
  have hI1 := hI.fr (FrV.z e1)
  have k32 : w1 32 0 = (oM (qR s)).length := by rw [e1, uv_j (by decide)]; exact m1
  rw [k32]
  have bad : ¬ i = -1 → (i < 0 ∨ (oM (qR s)).length ≤ i ∨ a < 0 ∨ 1 < a) → RW g C S m A 146 37 [some (.ref m), some (.int (iI i)), some (.int (iI a))] [.ref m] w1 Q := fun hn hq => by
    rw [if_neg hn, if_pos hq] at h
    exact v146_37 (v146_42 (fun w2 e2 => ⟨fun r => by rw [e2, uv_eq] at r; omega, fun _ => v146_75 (h w2 (by rw [e2, uv_eq]) (hI1.fr (FrV.z e2)))⟩))
  refine ⟨fun q => ⟨fun q1 => bad q (Or.inl q1), fun q1 => ⟨fun q2 => bad q (Or.inr (Or.inl q2)), fun q2 => ⟨fun q3 => bad q (Or.inr (Or.inr (Or.inl q3))), fun q3 => ⟨fun q4 => v146_42 (fun w2 e2 => ?_), fun q4 => bad q (Or.inr (Or.inr (Or.inr q4)))⟩⟩⟩⟩, fun q => ?_⟩
  · rw [if_neg q, if_neg (by omega)] at h
    have h3 := m3 i.toNat (by omega)
    rw [Int.toNat_of_nonneg q1] at h3
    have hm := hI.1.2.2.2.2.2.1.2.2.2.2.2.2.2.1 _ (mem_gD (d := (0, 0)) (show i.toNat < (oM (qR s)).length by omega))
    have k33 : w2 33 i = ((oM (qR s)).getD i.toNat (0, 0)).1 := by rw [e2, uv_j (by decide), e1, uv_j (by decide)]; exact h3.1
    have k34 : w2 34 i = ((oM (qR s)).getD i.toNat (0, 0)).2 := by rw [e2, uv_j (by decide), e1, uv_j (by decide)]; exact h3.2
    rw [k33, k34]
    refine ⟨fun _ => ⟨fun r => ⟨by omega, v146_75 ?_ (hu0 := by omega)⟩, fun r => ⟨by omega, v146_75 ?_ (hu0 := by omega)⟩⟩, fun r => by rw [e2, uv_eq] at r; omega⟩
    · have := h w2 (by rw [e2, uv_eq]) (hI1.fr (FrV.z e2))
      rw [if_neg r] at this
      exact this
    · have := h w2 (by rw [e2, uv_eq]) (hI1.fr (FrV.z e2))
      rw [if_pos r] at this
      exact this
  · rw [if_pos q] at h
    exact h w1 (by rw [e1, uv_eq]) hI1
theorem s147 {i : Int} (hi : -2147483648 ≤ i ∧ i ≤ 2147483647) (hI : MI v s) (h : ∀ w, w 0 0 = (x11 s i).1 → MI w (x11 s i).2.2 → Q (Sum.inl (some (.int (iI (x11 s i).2.1)))) w) : RW g C S m A 147 0 [some (.ref m), some (.int (iI i)), none] [] v Q := by
  have hS := SK11 (i := i) hI.1
  obtain ⟨r1, r2, r3⟩ := hI.2.2.2.2.1.1
  have h24 := hI.2.2.2.2.1.2.2.2
  unfold x11 at h hS
  have bad : (oB (qR s) = false ∨ (¬ i = -1 ∧ ¬ (0 ≤ i ∧ i < (oR (qR s)).length))) → RW g C S m A 147 25 [some (.ref m), some (.int (iI i)), none] [.ref m] v Q := fun hq => by
    have h : ∀ w, w 0 0 = 1 → MI w s → Q (Sum.inl (some (.int (iI 0)))) w := by
      rcases hq with hq | ⟨hq1, hq2⟩
      · rw [if_pos hq] at h; exact h
      · by_cases hb : oB (qR s) = false
        · rw [if_pos hb] at h; exact h
        · rw [if_neg hb, if_neg hq1, if_neg hq2] at h; exact h
    exact v147_25 (v147_26 (fun w1 e1 => ⟨fun r => by rw [e1, uv_eq] at r; omega, fun _ => h w1 (by rw [e1, uv_eq]) (hI.fr (FrV.z e1))⟩))
  -- the copy
  have cp : ∀ (w : VS) (T : List Int) {l2 : Option Value}, T.length ≤ 1000 → MI w s → w 0 0 = 0 → ((i = -1 ∧ One w T) ∨ (¬ i = -1 ∧ (0 ≤ i ∧ i < 24) ∧ w 30 i = T.length ∧ Hd (w 31) (1000 * i) T)) → (∀ w, w 0 0 = 0 → MI w (wOut s T) → Q (Sum.inl (some (.int (iI T.length)))) w) → RW g C S m A 147 76 [some (.ref m), some (.int (iI i)), l2] [] w Q := fun w T l2 hT hw hw0 hc hq => by
    have hSo := SK_out (l := T) hI.1 hT
    have loop : ∀ (n k : Nat) (u : VS), T.length - k = n → k ≤ T.length → (∀ j, ¬ j = 35 → ¬ j = 36 → u j = w j) → u 35 0 = T.length → Hd (u 36) 0 (T.take k) → RW g C S m A 147 100 [some (.ref m), some (.int (iI i)), some (.int (iI k))] [] u Q := by
      intro n
      induction n with
      | zero =>
        intro k u k1 k2 g1 g2 g3
        rw [List.take_of_length_le (by omega)] at g3
        refine v147_100 ⟨fun _ => ?_, fun r => by omega⟩
        rw [g2]
        refine hq u (by rw [g1 0 (by decide) (by decide)]; exact hw0) ⟨hSo, hw.2.1.fr (fun j _ _ => g1 j (by omega) (by omega)), ?_, ?_, ?_, g2, g3⟩
        · have := hw.2.2.1
          show u 9 0 = (qF s).length ∧ (qF s).length ≤ 24 ∧ ∀ i : Nat, i < (qF s).length → u 10 i = ((qF s).getD i 0 : Nat)
          rw [g1 9 (by decide) (by decide), g1 10 (by decide) (by decide)]
          exact this
        · have := hw.2.2.2.1
          show u 8 0 = qN s ∧ u 11 0 = qS s ∧ u 12 0 = qL s
          rw [g1 8 (by decide) (by decide), g1 11 (by decide) (by decide), g1 12 (by decide) (by decide)]
          exact this
        · have := hw.2.2.2.2.1
          show Rws u (oR (qR s)) ∧ (∀ i : Nat, i < (oR (qR s)).length → u 27 i = ((oE (qR s)).getD i 0 : Nat) ∧ Txx u i ((oX (qR s)).getD i [])) ∧ Lks u (oM (qR s)) ∧ u 24 0 = (if oB (qR s) = true then 1 else 0)
          unfold Rws Lks Txx at *
          rw [g1 24 (by decide) (by decide), g1 25 (by decide) (by decide), g1 26 (by decide) (by decide), g1 27 (by decide) (by decide), g1 30 (by decide) (by decide), g1 31 (by decide) (by decide), g1 32 (by decide) (by decide), g1 33 (by decide) (by decide), g1 34 (by decide) (by decide)]
          exact this
      | succ n ih =>
        intro k u k1 k2 g1 g2 g3
        refine qv_R fun hv' => ?_
        have htl : (T.take k).length = k := by rw [List.length_take]; omega
        have go : ∀ x : Int, x = T.getD k 0 → (-2147483648 ≤ x ∧ x ≤ 2147483647) → RW g C S m A 147 139 [some (.ref m), some (.int (iI i)), some (.int (iI k))] [.int (iI x), .int (iI k), .ref (A 36)] u Q := fun x hx hr => by
          refine v147_139 ⟨by omega, fun w2 e2 => ⟨by omega, ih (k + 1) w2 (by omega) (by omega) (fun j a1 a2 => by rw [e2, uv_j a2]; exact g1 j a1 a2) (by rw [e2, uv_j (by decide)]; exact g2) ?_⟩⟩
          have k36 : ∀ y, w2 36 y = if y = (k : Int) then x else u 36 y := fun y => by rw [e2, uv_s]
          rw [take_snoc (d := 0) (by omega), ← hx]
          refine g3.app (fun j hj => ?_) ?_
          · rw [htl] at hj
            rw [k36, if_neg (by omega)]
          · rw [htl, k36, if_pos (by omega)]
        refine v147_100 ?_
        rw [g2]
        refine ⟨fun r => by omega, fun _ => ⟨fun r => ?_, fun r => ?_⟩⟩
        · rcases hc with ⟨q1, -⟩ | ⟨-, q2, q3, q4⟩
          · exact absurd q1 r
          · have := q4 k (by omega)
            exact ⟨by omega, by omega, by omega, go _ (by rw [g1 31 (by decide) (by decide)]; exact this) (hv' _ _)⟩
        · rcases hc with ⟨-, q2⟩ | ⟨q1, -⟩
          · have := q2.2.at0 (x := k) (by omega)
            rw [Int.toNat_natCast] at this
            exact ⟨by omega, go _ (by rw [g1 20 (by decide) (by decide)]; exact this) (hv' _ _)⟩
          · exact absurd r q1
    have go : ∀ x : Int, x = T.length → ∀ {l2 : Option Value}, RW g C S m A 147 95 [some (.ref m), some (.int (iI i)), l2] [.int (iI x), .ref m] w Q := fun x hx l2 => by
      refine v147_95 (fun w1 e1 => loop _ 0 w1 rfl (Nat.zero_le _) (fun j a1 _ => by rw [e1, uv_j a1]) (by rw [e1, uv_eq]; exact hx) (fun i hi => absurd hi (Nat.not_lt_zero _)))
    refine v147_76 ⟨fun r => ?_, fun r => ?_⟩
    · rcases hc with ⟨q1, -⟩ | ⟨-, q2, q3, q4⟩
      · exact absurd q1 r
      · exact ⟨by omega, go _ q3⟩
    · rcases hc with ⟨-, q2⟩ | ⟨q1, -⟩
      · exact go _ q2.1
      · exact absurd r q1
  have good : oB (qR s) = true → (i = -1 ∨ (0 ≤ i ∧ i < (oR (qR s)).length)) → RW g C S m A 147 21 [some (.ref m), some (.int (iI i)), none] [.ref m] v Q := fun hb hq => by
    rw [if_neg (by rw [hb]; decide)] at h hS
    refine v147_21 (v147_26 (fun w1 e1 => ⟨fun _ w2 e2 => ?_, fun r => by rw [e1, uv_eq] at r; omega⟩))
    have hI1 := hI.fr (FrV.z e1)
    obtain ⟨o2, f2⟩ := One.z e2
    have hI2 : MI w2 s := hI1.fr (f2.c.v trivial)
    have k0 : w2 0 0 = 0 := by rw [f2 0 (by decide) (by decide), e1, uv_eq]
    refine ⟨fun r => ?_, fun r => ?_⟩
    · rw [if_neg r, if_pos (hq.resolve_left r)] at h hS
      have hq := hq.resolve_left r
      have hx := (hI2.2.2.2.2.1.2.1 i.toNat (by omega)).2
      unfold Txx at hx
      rw [Int.toNat_of_nonneg hq.1] at hx
      exact cp w2 _ hx.2.1 hI2 k0 (Or.inr ⟨r, by omega, hx.1, hx.2.2⟩) h
    · rw [if_pos r] at h hS
      have hh := head_len (oR (qR s)).length
      have htx := tx_l
      have hby := by_ref
      have hb9 : (byts 8 111542001886546).length + (byts 8 44119840088942).length = 12 := by rw [← List.length_append, hby]; exact htx.2.2.2.2.2
      refine s112 (by decide) o2 (by show 0 + _ ≤ _; omega) (fun w3 o3 f3 => v147_55 (s112 (by decide) o3 (by rw [List.length_append]; show 0 + _ + _ ≤ _; omega) (fun w4 o4 f4 => v147_62 ?_)))
      rw [List.nil_append, hby] at o4
      have e25 : w4 25 0 = (oR (qR s)).length := by rw [f4 25 (by decide) (by decide), f3 25 (by decide) (by decide)]; exact hI2.2.2.2.2.1.1.1
      rw [e25]
      refine s137 (by omega) o4 (by omega) (fun w5 o5 f5 => v147_70 (s111 o5 (by rw [List.length_append]; have := nmb_len (x := ((oR (qR s)).length : Int)); omega) (by decide) (fun w6 o6 f6 => ?_)))
      have ff : FrO w2 w6 := ((f3.trans f4).trans f5).trans f6
      exact cp w6 (head (oR (qR s)).length) (by omega) (hI2.fr (ff.c.v trivial)) (by rw [ff 0 (by decide) (by decide)]; exact k0) (Or.inl ⟨r, o6⟩) h
  refine v147_0 ⟨fun q => bad (Or.inl ?_), fun q => ?_⟩
  · cases hb : oB (qR s) with
    | false => rfl
    | true => rw [hb, if_pos rfl] at h24; omega
  · have hb : oB (qR s) = true := Decidable.of_not_not fun r => by rw [if_neg r] at h24; exact q h24
    refine ⟨fun q1 => good hb (Or.inl q1), fun q1 => s142 hi (fun q2 => v147_18 ⟨fun r => by omega, fun _ => good hb (Or.inr (by omega))⟩) (fun q2 => v147_18 ⟨fun _ => bad (Or.inr ⟨q1, by omega⟩), fun r => absurd rfl r⟩)⟩
theorem s148 {i : Int} (hi : -2147483648 ≤ i ∧ i ≤ 2147483647) (hI : MI v s) (h : ∀ w, w 0 0 = (x12 s i).1 → MI w (x12 s i).2.2 → Q (Sum.inl (some (.int (iI (x12 s i).2.1)))) w) : RW g C S m A 148 0 [some (.ref m), some (.int (iI i))] [] v Q := by
  refine qv_R fun hv' => ?_
  obtain ⟨o1, o2⟩ := hI.2.2.2.2.2
  have ho := hI.1.2.2.2.2.2.2
  unfold x12 at h
  have bad : ¬ (0 ≤ i ∧ i < (qO s).length) → RW g C S m A 148 13 [some (.ref m), some (.int (iI i))] [.ref m] v Q := fun hq => by
    rw [if_neg hq] at h
    exact v148_13 (v148_18 (fun w1 e1 => ⟨fun r => by rw [e1, uv_eq] at r; omega, fun _ => v148_38 (h w1 (by rw [e1, uv_eq]) (hI.fr (FrV.z e1)))⟩))
  refine v148_0 ⟨fun q => bad (by omega), fun q => ⟨fun q1 => v148_18 (fun w1 e1 => ⟨fun _ => ⟨by omega, ?_⟩, fun r => by rw [e1, uv_eq] at r; omega⟩), fun q1 => bad (by omega)⟩⟩
  rw [if_pos (by omega)] at h
  have hr := hv' 36 i
  have e36 : w1 36 i = (qO s).getD i.toNat 0 := by rw [e1, uv_j (by decide)]; exact o2.at0 (by omega)
  have e36' : v 36 i = (qO s).getD i.toNat 0 := o2.at0 (by omega)
  rw [e36]
  exact v148_38 (h w1 (by rw [e1, uv_eq]) (hI.fr (FrV.z e1))) (hu0 := by omega)
theorem s149 {i : Int} (hi : -2147483648 ≤ i ∧ i ≤ 2147483647) (hI : MI v s) (h : ∀ w, w 0 0 = (x13 s i).1 → MI w (x13 s i).2.2 → Q (Sum.inl (some (.int (iI (x13 s i).2.1)))) w) : RW g C S m A 149 0 [some (.ref m), some (.int (iI i)), none, none, none] [] v Q := by
  have hd := hI.1.1.1
  unfold x13 tw at h
  refine v149_0 (fun w1 e1 => ?_)
  have hI1 := hI.fr (FrV.z e1)
  have k1 : w1 1 0 = dN (qD s) := hI1.2.1.1
  have k0 : w1 0 0 = 0 := by rw [e1, uv_eq]
  have loop : ∀ (n k : Nat) (T : List Nat) (told : Int), dN (qD s) - k = n → k ≤ dN (qD s) → T = (List.range k).filter (fun e => decide (¬ real (qD s) e = e)) → T.length ≤ k → (told = if 0 ≤ i ∧ i < T.length then ((T.getD i.toNat 0 : Nat) : Int) else -1) → (-1 ≤ told ∧ told ≤ 24) → RW g C S m A 149 12 [some (.ref m), some (.int (iI i)), some (.int (iI T.length)), some (.int (iI told)), some (.int (iI k))] [] w1 Q := by
    intro n
    induction n with
    | zero =>
      intro k T told n1 n2 hT hl ht hr
      rw [show k = dN (qD s) by omega] at hT
      rw [← hT] at h
      refine v149_12 ?_
      rw [k1]
      refine ⟨fun _ => ⟨fun q => ⟨fun q1 => v149_71 (fun w2 e2 => ⟨fun _ => v149_86 ?_, fun r => by rw [e2, uv_eq] at r; omega⟩), fun q1 => v149_71 (fun w2 e2 => ⟨fun r => by rw [e2, uv_eq] at r; omega, fun _ => v149_86 ?_⟩)⟩, fun q => ?_⟩, fun r => by omega⟩
      · have hin : 0 ≤ i ∧ i < T.length := Decidable.of_not_not fun r => by rw [if_neg r] at ht; exact q1 ht
        rw [if_pos hin] at ht
        rw [if_neg q, if_pos hin] at h
        rw [ht]
        exact h w2 (by rw [e2, uv_eq]) (hI1.fr (FrV.z e2))
      · have hin : ¬ (0 ≤ i ∧ i < T.length) := fun r => by rw [if_pos r] at ht; omega
        rw [if_neg q, if_neg hin] at h
        exact h w2 (by rw [e2, uv_eq]) (hI1.fr (FrV.z e2))
      · rw [if_pos q] at h
        exact h w1 k0 hI1
    | succ n ih =>
      intro k T told n1 n2 hT hl ht hr
      have hrl := real_le (qD s) k
      have hTs : (List.range (k + 1)).filter (fun e => decide (¬ real (qD s) e = e)) = T ++ if real (qD s) k = k then [] else [k] := by
        rw [List.range_succ, List.filter_append, ← hT]
        congr 1
        by_cases r : real (qD s) k = k
        · rw [if_pos r]; simp [r]
        · rw [if_neg r]; simp [r]
      refine v149_12 ?_
      rw [k1]
      refine ⟨fun r => by omega, fun _ => s104 hI1.1.1 hI1.2.1 (by omega) (v149_27 ⟨fun r => v149_47 ⟨by omega, ih (k + 1) T told (by omega) (by omega) ?_ (by omega) ht hr⟩, fun r => ?_⟩ (hu0 := by omega))⟩
      · rw [hTs, if_pos (by omega), List.append_nil]
      · have hne : ¬ real (qD s) k = k := fun q => r (by omega)
        rw [if_neg hne] at hTs
        have hTl : (T ++ [k]).length = T.length + 1 := List.length_append
        have nx : ∀ y : Int, (y = if 0 ≤ i ∧ i < (T ++ [k]).length then (((T ++ [k]).getD i.toNat 0 : Nat) : Int) else -1) → (-1 ≤ y ∧ y ≤ 24) → ∀ {l3 : Option Value}, RW g C S m A 149 43 [some (.ref m), some (.int (iI i)), some (.int (iI T.length)), l3, some (.int (iI k))] [.int (iI y)] w1 Q := fun y hy hyr l3 => by
          have := ih (k + 1) (T ++ [k]) y (by omega) (by omega) hTs.symm (by omega) hy hyr
          rw [hTl] at this
          exact v149_43 ⟨by omega, v149_47 ⟨by omega, this⟩⟩
        rw [hTl] at nx
        refine ⟨fun q => nx told ?_ hr, fun q => nx k ?_ (by omega)⟩
        · rw [ht]
          by_cases hin : 0 ≤ i ∧ i < T.length
          · rw [if_pos hin, if_pos (by omega), gD_lt (by omega)]
          · rw [if_neg hin, if_neg (by omega)]
        · rw [if_pos (by omega), gD_eq (by omega)]
  exact loop _ 0 [] (-1) rfl (Nat.zero_le _) rfl (Nat.le_refl _) (by rw [if_neg (by show ¬ (0 ≤ i ∧ i < ((0 : Nat) : Int)); omega)]) (by decide)
end RCall2
