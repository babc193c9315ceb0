/-! THE REFERENCE'S CALLS -/
def MI (v : VS) (s : ST) : Prop := SK s ∧ RDb v (qD s) ∧ Fst v (qF s) ∧ (v 8 0 = qN s ∧ v 11 0 = qS s ∧ v 12 0 = qL s) ∧
  (Rws v (oR (qR s)) ∧ (∀ i : Nat, i < (oR (qR s)).length → v 27 i = ((oE (qR s)).getD i 0 : Nat) ∧ Txx v i ((oX (qR s)).getD i [])) ∧ Lks v (oM (qR s)) ∧ v 24 0 = (if oB (qR s) = true then 1 else 0)) ∧ v 35 0 = (qO s).length ∧ Hd (v 36) 0 (qO s)
def FrV (v w : VS) : Prop := ∀ j, (1 ≤ j ∧ j ≤ 12) ∨ (24 ≤ j ∧ j ≤ 27) ∨ (30 ≤ j ∧ j ≤ 36) → w j = v j
theorem FrC.v {v w : VS} (h : FrC v w) (hj : True) : FrV v w := fun j hj => h j (by omega)
theorem FrV.z {v w : VS} {x : Int} (e : w = uv v 0 0 x) : FrV v w := fun j hj => by rw [e, uv_j (by omega)]
theorem FrV.trans {v w u : VS} (h : FrV v w) (h' : FrV w u) : FrV v u := fun j hj => (h' j hj).trans (h j hj)
/-- the state's parts that are not data -/
def MRest (v : VS) (s : ST) : Prop := Fst v (qF s) ∧ (v 8 0 = qN s ∧ v 11 0 = qS s ∧ v 12 0 = qL s) ∧
  (Rws v (oR (qR s)) ∧ (∀ i : Nat, i < (oR (qR s)).length → v 27 i = ((oE (qR s)).getD i 0 : Nat) ∧ Txx v i ((oX (qR s)).getD i [])) ∧ Lks v (oM (qR s)) ∧ v 24 0 = (if oB (qR s) = true then 1 else 0)) ∧ v 35 0 = (qO s).length ∧ Hd (v 36) 0 (qO s)
theorem MRest.fr {v w : VS} {s : ST} (h : MRest v s) (hf : ∀ j, (8 ≤ j ∧ j ≤ 12) ∨ (24 ≤ j ∧ j ≤ 27) ∨ (30 ≤ j ∧ j ≤ 36) → w j = v j) : MRest w s := by
  unfold MRest Fst Rws Lks Txx at *
  rw [hf 8 (by omega), hf 9 (by omega), hf 10 (by omega), hf 11 (by omega), hf 12 (by omega), hf 24 (by omega), hf 25 (by omega), hf 26 (by omega), hf 27 (by omega), hf 30 (by omega), hf 31 (by omega), hf 32 (by omega), hf 33 (by omega), hf 34 (by omega), hf 35 (by omega), hf 36 (by omega)]
  exact h
theorem MI.fr {v w : VS} {s : ST} (h : MI v s) (hf : FrV v w) : MI w s := ⟨h.1, h.2.1.fr (fun j _ _ => hf j (by omega)), MRest.fr (s := s) h.2.2 (fun j hj => hf j (by omega))⟩
section RCall
variable {g : Nat → Nat} {C S m : Nat} {A : Nat → Nat} {v : VS} {Q : Rs → VS → Prop} {s : ST}
theorem s93 {e : Int} (hr : -2147483648 ≤ e ∧ e ≤ 2147483647) (h1 : 0 ≤ e ∧ e < v 1 0 → Q (Sum.inl (some (.int (iI 1)))) v) (h2 : ¬ (0 ≤ e ∧ e < v 1 0) → Q (Sum.inl (some (.int (iI 0)))) v) : RW g C S m A 93 0 [some (.ref m), some (.int (iI e))] [] v Q :=
  v93_0 ⟨fun q => v93_16 (v93_17 ⟨Or.inl rfl, h2 (by omega)⟩), fun q => ⟨fun r => v93_16 (v93_17 ⟨Or.inl rfl, h2 (by omega)⟩), fun r => v93_17 ⟨Or.inr rfl, h1 (by omega)⟩⟩⟩
theorem s94 {k : Int} (hk : -2147483648 ≤ k ∧ k ≤ 2147483647) (hI : MI v s) (h : ∀ w, w 0 0 = (x0 s k).1 → MI w (x0 s k).2.2 → Q (Sum.inl (some (.int (iI (x0 s k).2.1)))) w) : RW g C S m A 94 0 [some (.ref m), some (.int (iI k))] [] v Q := by
  have hS := SK0 (k := k) hI.1
  have h1 := hI.2.1.1
  have hd := hI.1.1.1
  unfold x0 at h hS
  have tail : ∀ (kd : Int) (w1 : VS) {l1 : Option Value}, kd = (if k < 0 ∨ 3 < k then 4 else k) → ¬ dN (qD s) = 24 → w1 = uv v 0 0 0 → RW g C S m A 94 49 [some (.ref m), l1] [.int (iI kd), .int (iI (w1 1 0)), .ref (A 2)] w1 Q := fun kd w1 l1 hkd hn e1 => by
    have hkr : 0 ≤ kd ∧ kd ≤ 4 := by rw [hkd]; split <;> omega
    rw [if_neg hn, ← hkd] at h hS
    have e11 : w1 1 0 = dN (qD s) := by rw [e1, uv_j (by decide)]; exact h1
    rw [e11]
    refine v94_49 ⟨by omega, fun w2 e2 => ?_⟩
    have e21 : w2 1 0 = dN (qD s) := by rw [e2, uv_j (by decide)]; exact e11
    rw [e21]
    refine ⟨by omega, fun w4 e4 => ?_⟩
    have e41 : w4 1 0 = dN (qD s) := by rw [e4, uv_j (by decide)]; exact e21
    rw [e41]
    refine ⟨by omega, fun w6 e6 => ?_⟩
    have e61 : w6 1 0 = dN (qD s) + 1 := by rw [e6, uv_eq]
    have ko : ∀ j, ¬ j = 0 → ¬ j = 1 → ¬ j = 2 → ¬ j = 7 → w6 j = v j := fun j q0 q1 q2 q7 => by rw [e6, uv_j q1, e4, uv_j q7, e2, uv_j q2, e1, uv_j q0]
    have k2 : ∀ x, w6 2 x = if x = (dN (qD s) : Int) then kd else v 2 x := fun x => by rw [e6, uv_j (by decide), e4, uv_j (by decide), e2, uv_s, e1, uv_j (by decide)]
    have k7 : ∀ x, w6 7 x = if x = (dN (qD s) : Int) then -1 else v 7 x := fun x => by rw [e6, uv_j (by decide), e4, uv_s, e2, uv_j (by decide), e1, uv_j (by decide)]
    have e60 : w6 0 0 = 0 := by rw [e6, uv_j (by decide), e4, uv_j (by decide), e2, uv_j (by decide), e1, uv_eq]
    rw [e61]
    refine ⟨by omega, ?_⟩
    rw [show ((dN (qD s) : Int) + 1) - 1 = dN (qD s) by omega]
    refine h w6 e60 ⟨hS, ⟨e61, fun e he => ?_, fun e he => ?_⟩, MRest.fr (s := s) hI.2.2 (fun j hj => ko j (by omega) (by omega) (by omega) (by omega))⟩
    · have he : e < dN (qD s) + 1 := he
      rw [k2, k7]
      show _ = (if e = dN (qD s) then kd else dK (qD s) e) ∧ _ = cro (dX (qD s) e)
      by_cases q : e = dN (qD s)
      · rw [if_pos (by omega), if_pos (by omega), if_pos (by omega), q, (hI.1.1.2.2.2.2.1 (dN (qD s)) (Nat.le_refl _)).2.2]
        exact ⟨rfl, rfl⟩
      · rw [if_neg (by omega), if_neg (by omega), if_neg (by omega)]
        exact hI.2.1.2.1 e (by omega)
    · rw [ko 3 (by decide) (by decide) (by decide) (by decide), ko 4 (by decide) (by decide) (by decide) (by decide), ko 5 (by decide) (by decide) (by decide) (by decide), ko 6 (by decide) (by decide) (by decide) (by decide)]
      exact hI.2.1.2.2 e he
  refine v94_0 ⟨fun q => v94_15 (fun w1 e1 => ⟨fun _ => ⟨fun r => v94_44 (tail 4 w1 (by rw [if_pos (Or.inl r)]) (by omega) e1) (hu0 := ?_), fun r => ⟨fun r2 => tail k w1 (by rw [if_neg (by omega)]) (by omega) e1, fun r2 => v94_44 (tail 4 w1 (by rw [if_pos (Or.inr r2)]) (by omega) e1) (hu0 := ?_)⟩⟩, fun r => ?_⟩), fun q => v94_15 (fun w1 e1 => ⟨fun r => ?_, fun _ => ?_⟩)⟩
  · rw [e1, uv_j (by decide)]; omega
  · rw [e1, uv_j (by decide)]; omega
  · rw [e1, uv_eq] at r; omega
  · rw [e1, uv_eq] at r; omega
  · rw [if_pos (by omega)] at h
    exact h w1 (by rw [e1, uv_eq]) (hI.fr (FrV.z e1))
theorem s95 {x : Int} (hx : 0 ≤ x ∧ x ≤ 255) (h1 : okc x → Q (Sum.inl (some (.int (iI 1)))) v) (h2 : ¬ okc x → Q (Sum.inl (some (.int (iI 0)))) v) : RW g C S m A 95 0 [some (.int (iI x))] [] v Q := by
  unfold okc at h1 h2
  have y : ((32 ≤ x ∧ x ≤ 126) ∨ (192 ≤ x ∧ x ≤ 255 ∧ ¬ x = 215 ∧ ¬ x = 247)) → ∀ {l0 : Option Value}, RW g C S m A 95 33 [l0] [] v Q := fun q l0 => v95_33 (v95_38 ⟨Or.inr rfl, h1 q⟩)
  have n : ¬ ((32 ≤ x ∧ x ≤ 126) ∨ (192 ≤ x ∧ x ≤ 255 ∧ ¬ x = 215 ∧ ¬ x = 247)) → ∀ {l0 : Option Value}, RW g C S m A 95 37 [l0] [] v Q := fun q l0 => v95_37 (v95_38 ⟨Or.inl rfl, h2 q⟩)
  have b : (x < 32 ∨ 126 < x) → RW g C S m A 95 12 [some (.int (iI x))] [] v Q := fun q => v95_12 ⟨fun r => n (by omega), fun r => ⟨fun r2 => n (by omega), fun r2 => ⟨fun r3 => n (by omega), fun r3 => y (by omega)⟩⟩⟩
  exact v95_0 ⟨fun q => b (by omega), fun q => ⟨fun r => y (by omega), fun r => b (by omega)⟩⟩
theorem btk_R (c : Int) (k : Nat) : 0 ≤ btk c k ∧ btk c k ≤ 255 := by unfold btk; omega
theorem s96 {c : Int} (hc : -2147483648 ≤ c ∧ c ≤ 2147483647) (h : Q (Sum.inl (some (.int (iI (if gdK c 4 = true then (chK c 4).length else -1))))) v) : RW g C S m A 96 0 [some (.int (iI c)), none, none, none] [] v Q := by
  refine v96_0 ?_
  have fin : ∀ x : Int, x = (if gdK c 4 = true then ((chK c 4).length : Int) else -1) → ∀ {l0 l2 l3 : Option Value}, RW g C S m A 96 50 [l0, some (.int (iI x)), l2, l3] [] v Q := fun x hx l0 l2 l3 => by
    have hl := chK_len c 4
    rw [← hx] at h
    exact v96_50 h (hx1 := by rw [hx]; split <;> omega)
  have loop : ∀ (n k : Nat) (x : Int) {l3 : Option Value}, 4 - k = n → k ≤ 4 → ((gdK c k = true ∧ x = (chK c k).length) ∨ (x = -1 ∧ gdK c 4 = false)) → RW g C S m A 96 4 [some (.int (iI c)), some (.int (iI x)), some (.int (iI k)), l3] [] v Q := by
    intro n
    induction n with
    | zero =>
      intro k x l3 k1 k2 hx
      have hk : k = 4 := by omega
      have hl := chK_len c 4
      subst hk
      refine v96_4 ⟨fun _ => fin x ?_, fun q => by omega⟩ (hx1 := by omega)
      rcases hx with ⟨q1, q2⟩ | ⟨q1, q2⟩
      · rw [if_pos q1, q2]
      · rw [if_neg (by rw [q2]; decide), q1]
    | succ n ih =>
      intro k x l3 k1 k2 hx
      have hl := chK_len c k
      have e : ∀ x : Int, x / 2 ^ (8 * (k : Int)).toNat % 256 = x / 2 ^ (8 * k) % 256 := fun x => by rw [show (8 * (k : Int)).toNat = 8 * k by omega]
      have hb := btk_R c k
      rcases hx with ⟨q1, q2⟩ | ⟨q1, q2⟩
      · refine v96_4 ⟨fun q => by omega, fun _ => ⟨fun q => by omega, fun _ => ?_⟩⟩ (hx1 := by omega)
        rw [e]
        show _ ∧ _ ∧ (btk c k = 0 → _) ∧ (¬ btk c k = 0 → _)
        refine ⟨by omega, by omega, fun r => v96_44 ⟨by omega, ih (k + 1) x (by omega) (by omega) (Or.inl ⟨?_, ?_⟩)⟩ (hx1 := by omega), fun r => s95 hb (fun s => v96_33 ⟨fun t => by omega, fun _ => ⟨by omega, v96_43 (v96_44 ⟨by omega, ih (k + 1) (x + 1) (by omega) (by omega) (Or.inl ⟨?_, ?_⟩)⟩ (hx1 := by omega))⟩⟩ (hx1 := by omega)) (fun s => v96_33 ⟨fun _ => v96_43 (v96_44 ⟨by omega, ih (k + 1) (-1) (by omega) (by omega) (Or.inr ⟨rfl, ?_⟩)⟩), fun t => absurd rfl t⟩ (hx1 := by omega))⟩
        · unfold gdK; rw [q1, r]; rfl
        · unfold chK; rw [if_pos r, List.append_nil]; exact q2
        · have s : okc (btk c k) := s
          unfold gdK; rw [q1, okB_iff.mpr s, Bool.or_true]; rfl
        · unfold chK; rw [if_neg r, List.length_append, q2]; rfl
        · have h1 : gdK c (k + 1) = false := by
            unfold gdK
            have : okB (btk c k) = false := by
              cases hh : okB (btk c k) with
              | false => rfl
              | true => exact absurd (okB_iff.mp hh) s
            rw [this, decide_eq_false r, Bool.or_false, Bool.and_false]
          have h2 : ∀ i, gdK c (k + 1) = false → gdK c (k + 1 + i) = false := fun i hh => by
            induction i with
            | zero => exact hh
            | succ i ihi =>
              show (gdK c (k + 1 + i) && _) = false
              rw [ihi, Bool.false_and]
          have := h2 (4 - (k + 1)) h1
          rw [show k + 1 + (4 - (k + 1)) = 4 by omega] at this
          exact this
      · subst q1
        exact v96_4 ⟨fun q => by omega, fun _ => ⟨fun _ => fin (-1) (by rw [if_neg (by rw [q2]; decide)]), fun q => absurd rfl q⟩⟩
  exact loop _ 0 0 rfl (by omega) (Or.inl ⟨rfl, rfl⟩)
/-- putting characters behind others -/
theorem s97 {j0 : Nat} {a c : Int} (hj : 0 < rl j0 ∧ rl j0 ≤ 100000) (hc : -2147483648 ≤ c ∧ c ≤ 2147483647) (ha : 0 ≤ a ∧ a + (chK c 4).length ≤ rl j0) (h : ∀ w : VS, (∀ i : Nat, i < (chK c 4).length → w j0 (a + i) = (chK c 4).getD i 0) → (∀ x, (x < a ∨ a + (chK c 4).length ≤ x) → w j0 x = v j0 x) → (∀ j, ¬ j = j0 → w j = v j) → Q (Sum.inl none) w) : RW g C S m A 97 0 [some (.ref (A j0)), some (.int (iI a)), some (.int (iI c)), none, none, none] [] v Q := by
  have h4 := chK_len c 4
  refine v97_0 ?_ (hj0 := hj.1) (hl0 := hj.2) (hx1 := by omega) (hx2 := by omega)
  have cmon : ∀ k, k ≤ 4 → (chK c k).length ≤ (chK c 4).length := by
    have : ∀ k i, (chK c k).length ≤ (chK c (k + i)).length := fun k i => by
      induction i with
      | zero => exact Nat.le_refl _
      | succ i ih =>
        show _ ≤ (chK c (k + i) ++ _).length
        rw [List.length_append]
        omega
    intro k hk
    have := this k (4 - k)
    rw [show k + (4 - k) = 4 by omega] at this
    exact this
  have loop : ∀ (n k : Nat) (u : VS) {l5 : Option Value}, 4 - k = n → k ≤ 4 → (∀ i : Nat, i < (chK c k).length → u j0 (a + i) = (chK c k).getD i 0) → (∀ x, (x < a ∨ a + (chK c k).length ≤ x) → u j0 x = v j0 x) → (∀ j, ¬ j = j0 → u j = v j) → RW g C S m A 97 5 [some (.ref (A j0)), some (.int (iI a)), some (.int (iI c)), some (.int (iI (chK c k).length)), some (.int (iI k)), l5] [] u Q := by
    intro n
    induction n with
    | zero =>
      intro k u l5 k1 k2 g1 g2 g3
      have hk : k = 4 := by omega
      subst hk
      exact v97_5 ⟨fun _ => h u g1 g2 g3, fun q => by omega⟩ (hj0 := hj.1) (hl0 := hj.2) (hx1 := by omega)
    | succ n ih =>
      intro k u l5 k1 k2 g1 g2 g3
      have hk1 := cmon (k + 1) (by omega)
      have hkl := chK_len c k
      have e : c / 2 ^ (8 * (k : Int)).toNat % 256 = btk c k := by unfold btk; rw [show (8 * (k : Int)).toNat = 8 * k by omega]
      refine v97_5 ⟨fun q => by omega, fun _ => ?_⟩ (hj0 := hj.1) (hl0 := hj.2) (hx1 := by omega)
      rw [e]
      have hb := btk_R c k
      refine ⟨by omega, by omega, fun r => v97_39 ⟨by omega, ?_⟩ (hj0 := hj.1) (hl0 := hj.2) (hx1 := by omega), fun r => ?_⟩
      · have ek : chK c (k + 1) = chK c k := by
          show chK c k ++ (if btk c k = 0 then [] else [btk c k]) = _
          rw [if_pos r, List.append_nil]
        have := ih (k + 1) u (l5 := some (.int (iI (btk c k)))) (by omega) (by omega) (by rw [ek]; exact g1) (by rw [ek]; exact g2) g3
        rw [ek] at this
        exact this
      · have ek : chK c (k + 1) = chK c k ++ [btk c k] := by
          show chK c k ++ (if btk c k = 0 then [] else [btk c k]) = _
          rw [if_neg r]
        have el : (chK c (k + 1)).length = (chK c k).length + 1 := by rw [ek, List.length_append]; rfl
        refine ⟨by omega, by omega, fun w5 e5 => ⟨by omega, v97_39 ⟨by omega, ?_⟩ (hj0 := hj.1) (hl0 := hj.2) (hx1 := by omega)⟩⟩
        have k5 : ∀ x, w5 j0 x = if x = a + (chK c k).length then btk c k else u j0 x := fun x => by rw [e5, uv_s]
        have := ih (k + 1) w5 (l5 := some (.int (iI (btk c k)))) (by omega) (by omega) (fun i hi => ?_) (fun x hx => ?_) (fun j q => by rw [e5, uv_j q]; exact g3 j q)
        · rw [el] at this
          exact this
        · rw [el] at hi
          rw [k5, ek]
          by_cases q : i = (chK c k).length
          · rw [if_pos (by omega), gD_eq q]
          · rw [if_neg (by omega), gD_lt (by omega)]
            exact g1 i (by omega)
        · rw [el] at hx
          rw [k5, if_neg (by omega)]
          exact g2 x (by omega)
  exact loop _ 0 v rfl (by omega) (fun i hi => absurd hi (Nat.not_lt_zero _)) (fun _ _ => rfl) (fun _ _ => rfl)
theorem Hd.cat {f f' : Int → Int} {b : Int} {l k : List Int} (h : Hd f b l) (h1 : ∀ i : Nat, i < l.length → f' (b + i) = f (b + i)) (h2 : ∀ i : Nat, i < k.length → f' (b + l.length + i) = k.getD i 0) : Hd f' b (l ++ k) := by
  intro i hi
  rw [List.length_append] at hi
  by_cases q : i < l.length
  · rw [gA_lt q, h1 i q]; exact h i q
  · rw [gA_ge (by omega), ← h2 (i - l.length) (by omega)]
    congr 1
    omega
theorem s98 {e c : Int} (he : -2147483648 ≤ e ∧ e ≤ 2147483647) (hc : -2147483648 ≤ c ∧ c ≤ 2147483647) (hI : MI v s) (h : ∀ w, w 0 0 = (x1 s e c).1 → MI w (x1 s e c).2.2 → Q (Sum.inl none) w) : RW g C S m A 98 0 [some (.ref m), some (.int (iI e)), some (.int (iI c)), none] [] v Q := by
  have hS := SK1 (e := e) (c := c) hI.1
  have h1 := hI.2.1.1
  have hd := hI.1.1.1
  have h4 := chK_len c 4
  refine v98_0 (s96 hc (v98_4 ?_ (hu0 := by split <;> omega)))
  generalize hn : (if gdK c 4 = true then ((chK c 4).length : Int) else -1) = n
  have hnr : -1 ≤ n ∧ n ≤ 4 := by rw [← hn]; split <;> omega
  unfold x1 at h hS
  have bad : ∀ (t : Int), (1 ≤ t ∧ t ≤ 3) → (∀ w, w 0 0 = t → MI w s → Q (Sum.inl none) w) → RW g C S m A 98 45 [some (.ref m), some (.int (iI e)), some (.int (iI c)), some (.int (iI n))] [.int (iI t), .ref m] v Q := fun t ht hq =>
    v98_45 (fun w1 e1 => ⟨fun _ => v98_88 (hq w1 (by rw [e1, uv_eq]) (hI.fr (FrV.z e1))), fun r => by rw [e1, uv_eq] at r; omega⟩)
  refine s93 he (fun q => v98_11 ⟨fun _ => ⟨fun q1 => ⟨by omega, ?_, ?_⟩, fun q1 => ?_⟩, fun r => by omega⟩) (fun q => v98_11 ⟨fun r => absurd rfl r, fun _ => ?_⟩)
  · obtain ⟨v3, -, -⟩ := key_of hI.1.1 hI.2.1 (e := e.toNat) (by omega)
    have hk := (hI.1.1.2.2.1 e.toNat).1
    rw [Int.toNat_of_nonneg q.1] at v3
    omega
  · obtain ⟨v3, v4, -⟩ := key_of hI.1.1 hI.2.1 (e := e.toNat) (by omega)
    have hk := (hI.1.1.2.2.1 e.toNat).1
    rw [Int.toNat_of_nonneg q.1] at v3 v4
    have hgd : gdK c 4 = true := Decidable.of_not_not fun r => by rw [if_neg r] at hn; exact q1 hn.symm
    rw [if_pos hgd] at hn
    rw [if_neg (by rw [Decidable.not_not]; exact ⟨q.1, by omega⟩), if_neg (by rw [hgd]; decide)] at h hS
    refine ⟨fun q2 => ?_, fun q2 => bad 3 (by omega) ?_⟩
    · rw [if_neg (by omega)] at h hS
      refine v98_45 (fun w1 e1 => ⟨fun r => absurd (by rw [e1, uv_eq]) r, fun _ => ?_⟩)
      have e13 : w1 3 = v 3 := by rw [e1, uv_j (by decide)]
      rw [e13]
      refine ⟨by omega, by omega, by omega, s97 (j0 := 4) (by decide) hc (by show 0 ≤ _ ∧ _ ≤ ((384 : Nat) : Int); omega) (fun w g1 g2 g3 => ?_)⟩
      have w3 : w 3 = v 3 := by rw [g3 3 (by decide), e13]
      refine v98_74 ?_
      rw [w3]
      refine ⟨by omega, by omega, by omega, fun w4 e4 => v98_88 (h w4 ?_ ⟨hS, ⟨?_, fun x hx => ?_, fun x hx => ?_⟩, MRest.fr (s := s) hI.2.2 (fun j hj => ?_)⟩)⟩
      · rw [e4, uv_j (by decide), g3 0 (by decide), e1, uv_eq]
      · rw [e4, uv_j (by decide), g3 1 (by decide), e1, uv_j (by decide)]; exact h1
      · rw [e4, uv_j (by decide), uv_j (by decide), g3 2 (by decide), g3 7 (by decide), e1, uv_j (by decide), uv_j (by decide)]
        exact hI.2.1.2.1 x hx
      · obtain ⟨u3, u4, u5⟩ := hI.2.1.2.2 x hx
        have k3 : ∀ y, w4 3 y = if y = e then v 3 e + n else v 3 y := fun y => by rw [e4, uv_s, w3]
        have k4 : w4 4 = w 4 := by rw [e4, uv_j (by decide)]
        have k5 : w4 5 = v 5 := by rw [e4, uv_j (by decide), g3 5 (by decide), e1, uv_j (by decide)]
        have k6 : w4 6 = v 6 := by rw [e4, uv_j (by decide), g3 6 (by decide), e1, uv_j (by decide)]
        have g2' : ∀ y, (y < 16 * e + v 3 e ∨ 16 * e + v 3 e + (chK c 4).length ≤ y) → w 4 y = v 4 y := fun y hy => by rw [g2 y hy, e1, uv_j (by decide)]
        rw [k3, k4, k5, k6]
        refine ⟨?_, ?_, u5⟩
        · show _ = (((if x = e.toNat then dY (qD s) e.toNat ++ chK c 4 else dY (qD s) x)).length : Int)
          by_cases r : x = e.toNat
          · rw [if_pos (by omega), if_pos r, List.length_append]; omega
          · rw [if_neg (by omega), if_neg r]; exact u3
        · show Hd (w 4) (16 * (x : Int)) (if x = e.toNat then dY (qD s) e.toNat ++ chK c 4 else dY (qD s) x)
          by_cases r : x = e.toNat
          · rw [if_pos r, show (x : Int) = e by omega]
            refine v4.cat (fun i hi => g2' _ (by omega)) (fun i hi => ?_)
            rw [← g1 i hi, v3]
          · rw [if_neg r]
            intro i hi
            have hxl := (hI.1.1.2.2.1 x).1
            rw [g2' _ (by omega)]
            exact u4 i hi
      · rw [e4, uv_j (by omega), g3 j (by omega), e1, uv_j (by omega)]
    · rw [if_pos (by omega)] at h
      exact h
  · have hgd : gdK c 4 = false := by
      cases hg : gdK c 4 with
      | false => rfl
      | true => rw [if_pos hg] at hn; omega
    rw [if_neg (by rw [Decidable.not_not]; exact ⟨q.1, by omega⟩), if_pos hgd] at h
    exact bad 2 (by omega) h
  · rw [if_pos (by omega)] at h
    exact bad 1 (by omega) h
theorem s99 {e f c : Int} (he : -2147483648 ≤ e ∧ e ≤ 2147483647) (hf : -2147483648 ≤ f ∧ f ≤ 2147483647) (hc : -2147483648 ≤ c ∧ c ≤ 2147483647) (hI : MI v s) (h : ∀ w, w 0 0 = (x2 s e f c).1 → MI w (x2 s e f c).2.2 → Q (Sum.inl none) w) : RW g C S m A 99 0 [some (.ref m), some (.int (iI e)), some (.int (iI f)), some (.int (iI c)), none, none] [] v Q := by
  have hS := SK2 (e := e) (f := f) (c := c) hI.1
  have h1 := hI.2.1.1
  have hd := hI.1.1.1
  have h4 := chK_len c 4
  refine v99_0 (s96 hc (v99_4 ?_ (hu0 := by split <;> omega)))
  generalize hn : (if gdK c 4 = true then ((chK c 4).length : Int) else -1) = n
  have hnr : -1 ≤ n ∧ n ≤ 4 := by rw [← hn]; split <;> omega
  unfold x2 at h hS
  have bad : ∀ (t : Int), (1 ≤ t ∧ t ≤ 4) → (∀ w, w 0 0 = t → MI w s → Q (Sum.inl none) w) → RW g C S m A 99 67 [some (.ref m), some (.int (iI e)), some (.int (iI f)), some (.int (iI c)), some (.int (iI n)), none] [.int (iI t), .ref m] v Q := fun t ht hq =>
    v99_67 (fun w1 e1 => ⟨fun _ => v99_123 (hq w1 (by rw [e1, uv_eq]) (hI.fr (FrV.z e1))), fun r => by rw [e1, uv_eq] at r; omega⟩)
  have bad2 : (0 ≤ e ∧ e < v 1 0) → (f < 0 ∨ 7 < f) → RW g C S m A 99 29 [some (.ref m), some (.int (iI e)), some (.int (iI f)), some (.int (iI c)), some (.int (iI n)), none] [.ref m] v Q := fun q q1 => by
    rw [if_neg (by rw [Decidable.not_not]; exact ⟨q.1, by omega⟩), if_pos q1] at h
    exact v99_29 (bad 2 (by omega) h)
  refine s93 he (fun q => v99_12 ⟨fun _ => ⟨fun q1 => bad2 q (Or.inl q1), fun q1 => ⟨fun q2 => ⟨fun q3 => ?_, fun q3 => ?_⟩, fun q2 => bad2 q (Or.inr q2)⟩⟩, fun r => by omega⟩) (fun q => v99_12 ⟨fun r => absurd rfl r, fun _ => ?_⟩)
  · have hgd : gdK c 4 = true := Decidable.of_not_not fun r => by rw [if_neg r] at hn; exact q3 hn.symm
    rw [if_pos hgd] at hn
    rw [if_neg (by rw [Decidable.not_not]; exact ⟨q.1, by omega⟩), if_neg (by omega), if_neg (by rw [hgd]; decide)] at h hS
    obtain ⟨v5, v6⟩ := (hI.2.1.2.2 e.toNat (by omega)).2.2 f.toNat (by omega)
    have hk := (hI.1.1.2.2.2.1 e.toNat f.toNat).1
    rw [Int.toNat_of_nonneg q.1, Int.toNat_of_nonneg q1] at v5 v6
    refine ⟨by omega, by omega, by omega, by omega, fun q4 => ?_, fun q4 => bad 4 (by omega) ?_⟩
    · rw [if_neg (by omega)] at h hS
      refine v99_67 (fun w1 e1 => ⟨fun r => absurd (by rw [e1, uv_eq]) r, fun _ => ?_⟩)
      have e15 : w1 5 = v 5 := by rw [e1, uv_j (by decide)]
      rw [e15]
      refine ⟨by omega, by omega, by omega, by omega, by omega, s97 (j0 := 6) (by decide) hc (by show 0 ≤ _ ∧ _ ≤ ((15360 : Nat) : Int); omega) (fun w g1 g2 g3 => ?_)⟩
      have w5 : w 5 = v 5 := by rw [g3 5 (by decide), e15]
      refine v99_106 ?_
      rw [w5]
      refine ⟨by omega, by omega, by omega, fun w4 e4 => v99_123 (h w4 ?_ ⟨hS, ⟨?_, fun x hx => ?_, fun x hx => ?_⟩, MRest.fr (s := s) hI.2.2 (fun j hj => ?_)⟩)⟩
      · rw [e4, uv_j (by decide), g3 0 (by decide), e1, uv_eq]
      · rw [e4, uv_j (by decide), g3 1 (by decide), e1, uv_j (by decide)]; exact h1
      · rw [e4, uv_j (by decide), uv_j (by decide), g3 2 (by decide), g3 7 (by decide), e1, uv_j (by decide), uv_j (by decide)]
        exact hI.2.1.2.1 x hx
      · obtain ⟨u3, u4, u5⟩ := hI.2.1.2.2 x hx
        have k5 : ∀ y, w4 5 y = if y = 8 * e + f then v 5 (8 * e + f) + n else v 5 y := fun y => by rw [e4, uv_s, w5]
        have k6 : w4 6 = w 6 := by rw [e4, uv_j (by decide)]
        have k3 : w4 3 = v 3 := by rw [e4, uv_j (by decide), g3 3 (by decide), e1, uv_j (by decide)]
        have k4 : w4 4 = v 4 := by rw [e4, uv_j (by decide), g3 4 (by decide), e1, uv_j (by decide)]
        have g2' : ∀ y, (y < 80 * (8 * e + f) + v 5 (8 * e + f) ∨ 80 * (8 * e + f) + v 5 (8 * e + f) + (chK c 4).length ≤ y) → w 6 y = v 6 y := fun y hy => by rw [g2 y hy, e1, uv_j (by decide)]
        rw [k3, k4, k6]
        refine ⟨u3, u4, fun z hz => ?_⟩
        obtain ⟨u5, u6⟩ := u5 z hz
        rw [k5]
        refine ⟨?_, ?_⟩
        · show _ = (((if x = e.toNat ∧ z = f.toNat then dF (qD s) e.toNat f.toNat ++ chK c 4 else dF (qD s) x z)).length : Int)
          by_cases r : x = e.toNat ∧ z = f.toNat
          · rw [if_pos (by omega), if_pos r, List.length_append]; omega
          · rw [if_neg (by omega), if_neg r]; exact u5
        · show Hd (w 6) (80 * (8 * (x : Int) + z)) (if x = e.toNat ∧ z = f.toNat then dF (qD s) e.toNat f.toNat ++ chK c 4 else dF (qD s) x z)
          by_cases r : x = e.toNat ∧ z = f.toNat
          · rw [if_pos r, show (x : Int) = e by omega, show (z : Int) = f by omega]
            refine v6.cat (fun i hi => g2' _ (by omega)) (fun i hi => ?_)
            rw [← g1 i hi, v5]
          · rw [if_neg r]
            intro i hi
            have hxl := (hI.1.1.2.2.2.1 x z).1
            rw [g2' _ (by omega)]
            exact u6 i hi
      · rw [e4, uv_j (by omega), g3 j (by omega), e1, uv_j (by omega)]
    · rw [if_pos (by omega)] at h
      exact h
  · have hgd : gdK c 4 = false := by
      cases hg : gdK c 4 with
      | false => rfl
      | true => rw [if_pos hg] at hn; omega
    rw [if_neg (by rw [Decidable.not_not]; exact ⟨q.1, by omega⟩), if_neg (by omega), if_pos hgd] at h
    exact bad 3 (by omega) h
  · rw [if_pos (by omega)] at h
    exact bad 1 (by omega) h
theorem s100 {e : Int} (he : -2147483648 ≤ e ∧ e ≤ 2147483647) (hI : MI v s) (h : ∀ w, w 0 0 = (x3 s e).1 → MI w (x3 s e).2.2 → Q (Sum.inl (some (.int (iI (x3 s e).2.1)))) w) : RW g C S m A 100 0 [some (.ref m), some (.int (iI e)), none, none] [] v Q := by
  have hS := SK3 (e := e) hI.1
  have h1 := hI.2.1.1
  have hd := hI.1.1.1
  obtain ⟨f9, f24, f10⟩ := hI.2.2.1
  have h8 := hI.2.2.2.1.1
  have h60 := hI.1.2.2.1
  unfold x3 at h hS
  have bad : ∀ (t : Int), (1 ≤ t ∧ t ≤ 2) → (∀ w, w 0 0 = t → MI w s → Q (Sum.inl (some (.int (iI 0)))) w) → RW g C S m A 100 27 [some (.ref m), some (.int (iI e)), none, none] [.int (iI t), .ref m] v Q := fun t ht hq =>
    v100_27 (fun w1 e1 => ⟨fun r => by rw [e1, uv_eq] at r; omega, fun _ => hq w1 (by rw [e1, uv_eq]) (hI.fr (FrV.z e1))⟩)
  refine v100_0 (s93 he (fun q => v100_6 ⟨fun _ => ⟨fun q1 => ?_, fun q1 => ?_⟩, fun r => by omega⟩) (fun q => v100_6 ⟨fun r => absurd rfl r, fun _ => ?_⟩))
  · rw [if_neg (by rw [Decidable.not_not]; exact ⟨q.1, by omega⟩), if_neg (by omega)] at h hS
    have hm : addN (qF s) e.toNat = if e.toNat ∈ qF s then qF s else qF s ++ [e.toNat] := rfl
    have hFl := hS.2.1.len
    have hFl : (addN (qF s) e.toNat).length ≤ dN (qD s) := hFl
    refine v100_27 (fun w1 e1 => ⟨fun _ => ?_, fun r => by rw [e1, uv_eq] at r; omega⟩)
    have e18 : w1 8 0 = qN s := by rw [e1, uv_j (by decide)]; exact h8
    rw [e18]
    refine ⟨by omega, fun w3 e3 => ?_⟩
    have ko : ∀ j, ¬ j = 0 → ¬ j = 8 → w3 j = v j := fun j q0 q8 => by rw [e3, uv_j q8, e1, uv_j q0]
    have k8 : w3 8 0 = qN s + 1 := by rw [e3, uv_eq]
    have k0 : w3 0 0 = 0 := by rw [e3, uv_j (by decide), e1, uv_eq]
    have fin : ∀ (w : VS) {l1 l2 l3 : Option Value}, (∀ j, ¬ j = 9 → ¬ j = 10 → w j = w3 j) → Fst w (addN (qF s) e.toNat) → RW g C S m A 100 111 [some (.ref m), l1, l2, l3] [] w Q := fun w l1 l2 l3 hw hF => by
      refine v100_111 ?_
      have w8 : w 8 0 = qN s + 1 := by rw [hw 8 (by decide) (by decide)]; exact k8
      rw [w8]
      have kw : ∀ j, ¬ j = 0 → ¬ j = 8 → ¬ j = 9 → ¬ j = 10 → w j = v j := fun j a1 a2 a3 a4 => by rw [hw j a3 a4, ko j a1 a2]
      refine h w (by rw [hw 0 (by decide) (by decide)]; exact k0) ⟨hS, hI.2.1.fr (fun j _ _ => kw j (by omega) (by omega) (by omega) (by omega)), hF, ⟨w8, ?_, ?_⟩, ?_⟩
      · rw [kw 11 (by decide) (by decide) (by decide) (by decide)]; exact hI.2.2.2.1.2.1
      · rw [kw 12 (by decide) (by decide) (by decide) (by decide)]; exact hI.2.2.2.1.2.2
      · have := hI.2.2.2.2
        unfold Rws Lks Txx at *
        rw [kw 24 (by decide) (by decide) (by decide) (by decide), kw 25 (by decide) (by decide) (by decide) (by decide), kw 26 (by decide) (by decide) (by decide) (by decide), kw 27 (by decide) (by decide) (by decide) (by decide), kw 30 (by decide) (by decide) (by decide) (by decide), kw 31 (by decide) (by decide) (by decide) (by decide), kw 32 (by decide) (by decide) (by decide) (by decide), kw 33 (by decide) (by decide) (by decide) (by decide), kw 34 (by decide) (by decide) (by decide) (by decide), kw 35 (by decide) (by decide) (by decide) (by decide), kw 36 (by decide) (by decide) (by decide) (by decide)]
        exact this
    have w9 : w3 9 = v 9 := ko 9 (by decide) (by decide)
    have w10 : w3 10 = v 10 := ko 10 (by decide) (by decide)
    have loop : ∀ (n k : Nat) (x : Int), (qF s).length - k = n → k ≤ (qF s).length → x = (if e.toNat ∈ (qF s).take k then 1 else 0) → RW g C S m A 100 53 [some (.ref m), some (.int (iI e)), some (.int (iI x)), some (.int (iI k))] [] w3 Q := by
      intro n
      induction n with
      | zero =>
        intro k x k1 k2 hx
        rw [List.take_of_length_le (by omega)] at hx
        have h01 : x = 0 ∨ x = 1 := by rw [hx]; split <;> omega
        refine v100_53 ?_ 
        rw [w9, f9]
        refine ⟨fun _ => ⟨fun r => fin w3 (fun _ _ _ => rfl) ?_, fun r => ?_⟩, fun r => by omega⟩
        · have hin : e.toNat ∈ qF s := Decidable.of_not_not fun t => by rw [if_neg t] at hx; exact r hx
          rw [hm, if_pos hin]
          exact ⟨by rw [w9]; exact f9, f24, by rw [w10]; exact f10⟩
        · have hin : ¬ e.toNat ∈ qF s := fun t => by rw [if_pos t] at hx; omega
          rw [hm, if_neg hin, List.length_append] at hFl
          have hFl : (qF s).length + 1 ≤ dN (qD s) := hFl
          refine ⟨by omega, fun w2 e2 => ?_⟩
          have w29 : w2 9 = v 9 := by rw [e2, uv_j (by decide), w9]
          rw [w29, f9]
          refine ⟨by omega, fun w4 e4 => fin w4 (fun j a1 a2 => by rw [e4, uv_j a1, e2, uv_j a2]) ?_⟩
          rw [hm, if_neg hin]
          refine ⟨by rw [e4, uv_eq, List.length_append]; rfl, by rw [List.length_append]; show _ + 1 ≤ 24; omega, fun i hi => ?_⟩
          rw [List.length_append] at hi
          have hi : i < (qF s).length + 1 := hi
          rw [e4, uv_j (by decide), e2, uv_s]
          by_cases t : i = (qF s).length
          · rw [if_pos (by omega), gD_eq t]; omega
          · rw [if_neg (by omega), gD_lt (by omega), w10]; exact f10 i (by omega)
      | succ n ih =>
        intro k x k1 k2 hx
        have h01 : x = 0 ∨ x = 1 := by rw [hx]; split <;> omega
        have hk10 := f10 k (by omega)
        have hmem : e.toNat ∈ (qF s).take (k + 1) ↔ e.toNat ∈ (qF s).take k ∨ e.toNat = (qF s).getD k 0 := by
          rw [take_snoc (d := 0) (by omega), List.mem_append, List.mem_singleton]
        have nx : ∀ y : Int, y = (if e.toNat ∈ (qF s).take (k + 1) then 1 else 0) → ∀ {l2 : Option Value}, RW g C S m A 100 80 [some (.ref m), some (.int (iI e)), l2, some (.int (iI k))] [.int (iI y)] w3 Q := fun y hy l2 => by
          have h01 : y = 0 ∨ y = 1 := by rw [hy]; split <;> omega
          exact v100_80 ⟨by omega, ih (k + 1) y (by omega) (by omega) hy⟩
        refine v100_53 ?_
        rw [w9, f9, w10, hk10]
        refine ⟨fun r => by omega, fun _ => ⟨fun r => v100_75 (nx 1 ?_), fun r => ⟨by omega, fun r2 => nx 0 ?_, fun r2 => v100_75 (nx 1 ?_)⟩⟩⟩
        · have hin : e.toNat ∈ (qF s).take k := Decidable.of_not_not fun t => by rw [if_neg t] at hx; exact r hx
          rw [if_pos (hmem.mpr (Or.inl hin))]
        · have hin : ¬ e.toNat ∈ (qF s).take k := fun t => by rw [if_pos t] at hx; omega
          rw [if_neg (fun t => (hmem.mp t).elim hin (fun u => r2 (by omega)))]
        · rw [if_pos (hmem.mpr (Or.inr (by omega)))]
    exact loop _ 0 0 rfl (Nat.zero_le _) rfl
  · rw [if_neg (by rw [Decidable.not_not]; exact ⟨q.1, by omega⟩), if_pos (by omega)] at h
    exact bad 2 (by omega) h
  · rw [if_pos (by omega)] at h
    exact bad 1 (by omega) h
theorem s101 {e o : Int} (he : -2147483648 ≤ e ∧ e ≤ 2147483647) (ho : -2147483648 ≤ o ∧ o ≤ 2147483647) (hI : MI v s) (h : ∀ w, w 0 0 = (x4 s e o).1 → MI w (x4 s e o).2.2 → Q (Sum.inl (some (.int (iI (x4 s e o).2.1)))) w) : RW g C S m A 101 0 [some (.ref m), some (.int (iI e)), some (.int (iI o)), none] [] v Q := by
  have hS := SK4 (e := e) (o := o) hI.1
  have h1 := hI.2.1.1
  have hd := hI.1.1.1
  unfold x4 at h hS
  have bad : ¬ (isE s e ∧ isE s o) → RW g C S m A 101 21 [some (.ref m), some (.int (iI e)), some (.int (iI o)), none] [.ref m] v Q := fun hq => by
    rw [if_pos hq] at h
    exact v101_21 (v101_22 (fun w1 e1 => ⟨fun r => by rw [e1, uv_eq] at r; omega, fun _ => h w1 (by rw [e1, uv_eq]) (hI.fr (FrV.z e1))⟩))
  refine v101_0 (s93 he (fun q => v101_6 ⟨fun r => by omega, fun _ => s93 ho (fun q2 => v101_14 ⟨fun r => by omega, fun _ => ?_⟩) (fun q2 => v101_14 ⟨fun _ => bad (fun t => q2 (by omega)), fun r => absurd rfl r⟩)⟩) (fun q => v101_6 ⟨fun _ => bad (fun t => q (by omega)), fun r => absurd rfl r⟩))
  rw [if_neg (by rw [Decidable.not_not]; exact ⟨⟨q.1, by omega⟩, q2.1, by omega⟩)] at h hS
  refine v101_22 (fun w1 e1 => ⟨fun _ => ?_, fun r => by rw [e1, uv_eq] at r; omega⟩)
  have k7 : w1 7 = v 7 := by rw [e1, uv_j (by decide)]
  have en24 := hI.1.1.2.2.2.2.2.2 o.toNat
  have loop : ∀ (n x : Nat), x < dN (qD s) → en (dX (qD s)) n x → lds (dX (qD s)) n x e.toNat = lds (dX (qD s)) 24 o.toNat e.toNat → RW g C S m A 101 36 [some (.ref m), some (.int (iI e)), some (.int (iI o)), some (.int (iI x))] [] w1 Q := by
    intro n
    induction n with
    | zero => intro x _ h _; exact h.elim
    | succ n ih =>
      intro x hx hen hl
      obtain ⟨-, v7⟩ := hI.2.1.2.1 x hx
      unfold lds at hl
      refine v101_36 ⟨fun r => by omega, fun _ => ⟨fun r => ⟨by omega, ?_⟩, fun r => ?_⟩⟩
      · rw [if_neg (by omega)] at hl
        rw [k7, v7]
        unfold en at hen
        cases hc : dX (qD s) x with
        | none =>
          rw [hc] at hl
          have hl : false = lds (dX (qD s)) 24 o.toNat e.toNat := hl
          rw [← hl, if_neg (by decide)] at h hS
          refine v101_36 ⟨fun _ => ⟨by omega, fun w2 e2 => h w2 ?_ ⟨hS, ⟨?_, fun y hy => ?_, fun y hy => ?_⟩, MRest.fr (s := s) hI.2.2 (fun j hj => ?_)⟩⟩, fun t => absurd rfl t⟩ (hx3 := by decide)
          · rw [e2, uv_j (by decide), e1, uv_eq]
          · rw [e2, uv_j (by decide), e1, uv_j (by decide)]; exact h1
          · have hy : y < dN (qD s) := hy
            rw [e2, uv_j (by decide), uv_s, e1, uv_j (by decide), uv_j (by decide)]
            obtain ⟨z1, z2⟩ := hI.2.1.2.1 y hy
            refine ⟨z1, ?_⟩
            show _ = cro (if y = e.toNat then some o.toNat else dX (qD s) y)
            by_cases t : y = e.toNat
            · rw [if_pos (by omega), if_pos t]
              show o = (o.toNat : Int)
              omega
            · rw [if_neg (by omega), if_neg t]; exact z2
          · rw [e2, uv_j (by decide), uv_j (by decide), uv_j (by decide), uv_j (by decide), e1, uv_j (by decide), uv_j (by decide), uv_j (by decide), uv_j (by decide)]
            exact hI.2.1.2.2 y hy
          · rw [e2, uv_j (by omega), e1, uv_j (by omega)]
        | some x' =>
          rw [hc] at hl hen
          exact ih x' (hI.1.1.2.2.2.2.2.1 x x' hc) hen hl
      · rw [if_pos (by omega)] at hl
        have hl : true = lds (dX (qD s)) 24 o.toNat e.toNat := hl
        rw [← hl, if_pos rfl] at h
        exact h w1 (by rw [e1, uv_eq]) (hI.fr (FrV.z e1))
  have := loop 24 o.toNat (by omega) en24 rfl
  rw [Int.toNat_of_nonneg q2.1] at this
  exact this
theorem s102 {a b : Int} (ha : -2147483648 ≤ a ∧ a ≤ 2147483647) (hb : -2147483648 ≤ b ∧ b ≤ 2147483647) (hI : MI v s) (h : ∀ w, w 0 0 = (x5 s a b).1 → MI w (x5 s a b).2.2 → Q (Sum.inl (some (.int (iI (x5 s a b).2.1)))) w) : RW g C S m A 102 0 [some (.ref m), some (.int (iI a)), some (.int (iI b)), none] [] v Q := by
  have hS := SK5 (a := a) (b := b) hI.1
  obtain ⟨h8, h11, h12⟩ := hI.2.2.2.1
  have r1 := hI.1.2.2.2.1
  have r2 := hI.1.2.2.2.2.1
  unfold x5 at h hS
  have bad : (a < 0 ∨ 2 < a ∨ b < 0 ∨ 2 < b) → RW g C S m A 102 19 [some (.ref m), some (.int (iI a)), some (.int (iI b)), none] [.ref m] v Q := fun hq => by
    rw [if_pos hq] at h
    exact v102_19 (v102_24 (fun w1 e1 => ⟨fun r => by rw [e1, uv_eq] at r; omega, fun _ => h w1 (by rw [e1, uv_eq]) (hI.fr (FrV.z e1))⟩))
  refine v102_0 ⟨fun q => bad (by omega), fun q => ⟨fun q2 => bad (by omega), fun q2 => ⟨fun q3 => bad (by omega), fun q3 => ⟨fun q4 => v102_24 (fun w1 e1 => ⟨fun _ => ?_, fun r => by rw [e1, uv_eq] at r; omega⟩), fun q4 => bad (by omega)⟩⟩⟩⟩
  rw [if_neg (by omega)] at h hS
  have k11 : w1 11 0 = qS s := by rw [e1, uv_j (by decide)]; exact h11
  have k12 : w1 12 0 = qL s := by rw [e1, uv_j (by decide)]; exact h12
  rw [k11, k12]
  refine ⟨by omega, by omega, fun w4 e4 w5 e5 => h w5 (by rw [e5, uv_j (by decide), e4, uv_j (by decide), e1, uv_eq]) ?_⟩
  have kw : ∀ j, ¬ j = 0 → ¬ j = 11 → ¬ j = 12 → w5 j = v j := fun j a1 a2 a3 => by rw [e5, uv_j a3, e4, uv_j a2, e1, uv_j a1]
  refine ⟨hS, hI.2.1.fr (fun j _ _ => kw j (by omega) (by omega) (by omega)), ?_, ⟨by rw [kw 8 (by decide) (by decide) (by decide)]; exact h8, by rw [e5, uv_j (by decide), e4, uv_eq]; rfl, by rw [e5, uv_eq]; rfl⟩, ?_⟩
  · have := hI.2.2.1
    unfold Fst at *
    rw [kw 9 (by decide) (by decide) (by decide), kw 10 (by decide) (by decide) (by decide)]
    exact this
  · have := hI.2.2.2.2
    unfold Rws Lks Txx at *
    rw [kw 24 (by decide) (by decide) (by decide), kw 25 (by decide) (by decide) (by decide), kw 26 (by decide) (by decide) (by decide), kw 27 (by decide) (by decide) (by decide), kw 30 (by decide) (by decide) (by decide), kw 31 (by decide) (by decide) (by decide), kw 32 (by decide) (by decide) (by decide), kw 33 (by decide) (by decide) (by decide), kw 34 (by decide) (by decide) (by decide), kw 35 (by decide) (by decide) (by decide), kw 36 (by decide) (by decide) (by decide)]
    exact this
end RCall
