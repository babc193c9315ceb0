/-! THE REFERENCE READS PERSONS -/
theorem gA_lt {α : Type} {l k : List α} {d : α} {i : Nat} (h : i < l.length) : (l ++ k).getD i d = l.getD i d := by
  rw [List.getD_eq_getElem?_getD, List.getD_eq_getElem?_getD, List.getElem?_append_left h]
theorem gA_ge {α : Type} {l k : List α} {d : α} {i : Nat} (h : l.length ≤ i) : (l ++ k).getD i d = k.getD (i - l.length) d := by
  rw [List.getD_eq_getElem?_getD, List.getD_eq_getElem?_getD, List.getElem?_append_right h]
theorem tgR_get {t : List Int} {p : Nat} {x : P5} {W : List Wd} {k : Nat} (h : k < W.length) : (tgR t p x W).getD k wd0 = twd t p x W k := by
  unfold tgR
  rw [List.getD_eq_getElem?_getD, List.getElem?_map, List.getElem?_range h]
  rfl
theorem tgR_len {t : List Int} {p : Nat} {x : P5} {W : List Wd} : (tgR t p x W).length = W.length := by
  unfold tgR
  rw [List.length_map, List.length_range]
theorem uv_s {v : VS} {j : Nat} {p x z : Int} : uv v j p z j x = if x = p then z else v j x := by
  unfold uv
  by_cases q : x = p
  · rw [if_pos ⟨rfl, q⟩, if_pos q]
  · rw [if_neg (fun r => q r.2), if_neg q]
def TW (v : VS) (b : Int) (i : Nat) (x : TWd) : Prop :=
  (v 17 (64 * b + i) = x.1 ∧ v 18 (64 * b + i) = x.2.1) ∧ (80 * b ≤ v 15 (64 * b + i) ∧ v 15 (64 * b + i) + x.2.2.length = v 16 (64 * b + i) ∧ v 16 (64 * b + i) ≤ 80 * b + 80) ∧ Hd (v 13) (v 15 (64 * b + i)) x.2.2 ∧ 1 ≤ x.2.2.length
/-- while it reads: words of persons before, their number, words since -/
def RdI (v : VS) (b : Int) (t : List Int) (T : List TWd) (P : Nat) (W : List Wd) : Prop :=
  v 14 b = T.length + W.length ∧ v 19 b = P ∧ Hd (v 13) (80 * b) t ∧ (∀ i : Nat, i < T.length → TW v b i (T.getD i wd0)) ∧
  (∀ j : Nat, j < W.length → v 17 (64 * b + ((T.length + j : Nat) : Int)) = P ∧ v 15 (64 * b + ((T.length + j : Nat) : Int)) = 80 * b + ((W.getD j (0, 0)).1 : Int) ∧ v 16 (64 * b + ((T.length + j : Nat) : Int)) = 80 * b + ((W.getD j (0, 0)).2 : Int))
def FrB (b : Int) (v w : VS) : Prop := (∀ j, (j < 13 ∨ 19 < j) → w j = v j) ∧ (∀ x, (x < 80 * b ∨ 80 * b + 80 ≤ x) → w 13 x = v 13 x) ∧ (∀ j, 15 ≤ j → j ≤ 18 → ∀ x, (x < 64 * b ∨ 64 * b + 64 ≤ x) → w j x = v j x) ∧ (∀ x, ¬ x = b → w 14 x = v 14 x ∧ w 19 x = v 19 x)
theorem FrB.rfl {b : Int} {v : VS} : FrB b v v := ⟨fun _ _ => by rfl, fun _ _ => by rfl, fun _ _ _ _ _ => by rfl, fun _ _ => ⟨by rfl, by rfl⟩⟩
theorem FrB.trans {b : Int} {u v w : VS} (h : FrB b u v) (h' : FrB b v w) : FrB b u w := ⟨fun j q => (h'.1 j q).trans (h.1 j q), fun x q => (h'.2.1 x q).trans (h.2.1 x q), fun j q1 q2 x q => (h'.2.2.1 j q1 q2 x q).trans (h.2.2.1 j q1 q2 x q), fun x q => ⟨(h'.2.2.2 x q).1.trans (h.2.2.2 x q).1, (h'.2.2.2 x q).2.trans (h.2.2.2 x q).2⟩⟩
section RRead
variable {g : Nat → Nat} {C S m : Nat} {A : Nat → Nat} {v : VS} {Q : Rs → VS → Prop} {b : Int} {t : List Int} {T : List TWd} {P : Nat} {W : List Wd}
theorem s108 {a e : Nat} (hb : b = 0 ∨ b = 1) (hI : RdI v b t T P W) (hn : T.length + W.length < 64) (hP : P ≤ 100) (hae : a ≤ 80 ∧ e ≤ 80) (h : ∀ w, RdI w b t T P (W ++ [(a, e)]) → FrB b v w → Q (Sum.inl none) w) : RW g C S m A 108 0 [some (.ref m), some (.int (iI b)), some (.int (iI (80 * b + a))), some (.int (iI (80 * b + e))), none] [] v Q := by
  obtain ⟨h14, h19, h13, hT, hW⟩ := hI
  refine v108_0 ⟨by omega, by omega, by omega, by omega, fun w5 e5 => ⟨by omega, fun w7 e7 => ⟨by omega, by omega, fun w10 e10 => ?_⟩⟩⟩
  have f14 : w10 14 = v 14 := by rw [e10, uv_j (by decide), e7, uv_j (by decide), e5, uv_j (by decide)]
  have f19 : w7 19 = v 19 := by rw [e7, uv_j (by decide), e5, uv_j (by decide)]
  rw [f14]
  refine ⟨by omega, by omega, by omega, fun w e14 => ?_⟩
  have k15 : ∀ x, w 15 x = if x = 64 * b + v 14 b then 80 * b + a else v 15 x := fun x => by rw [e14, uv_j (by decide), e10, uv_j (by decide), e7, uv_j (by decide), e5, uv_s]
  have k16 : ∀ x, w 16 x = if x = 64 * b + v 14 b then 80 * b + e else v 16 x := fun x => by rw [e14, uv_j (by decide), e10, uv_j (by decide), e7, uv_s, e5, uv_j (by decide)]
  have k17 : ∀ x, w 17 x = if x = 64 * b + v 14 b then (P : Int) else v 17 x := fun x => by rw [e14, uv_j (by decide), e10, uv_s, f19, h19, e7, uv_j (by decide), e5, uv_j (by decide)]
  have k14 : ∀ x, w 14 x = if x = b then v 14 b + 1 else v 14 x := fun x => by rw [e14, uv_s, f14]
  have ko : ∀ j, ¬ j = 14 → ¬ j = 15 → ¬ j = 16 → ¬ j = 17 → w j = v j := fun j q1 q2 q3 q4 => by rw [e14, uv_j q1, e10, uv_j q4, e7, uv_j q3, e5, uv_j q2]
  refine h w ⟨?_, ?_, ?_, fun i hi => ?_, fun j hj => ?_⟩ ⟨fun j hj => ko j (by omega) (by omega) (by omega) (by omega), fun x _ => by rw [ko 13 (by decide) (by decide) (by decide) (by decide)], fun j q1 q2 x hx => ?_, fun x hx => ⟨?_, ?_⟩⟩
  · rw [k14, if_pos rfl, List.length_append, h14]
    show _ + 1 = (T.length : Int) + ((W.length + 1 : Nat) : Int)
    omega
  · rw [ko 19 (by decide) (by decide) (by decide) (by decide)]; exact h19
  · rw [ko 13 (by decide) (by decide) (by decide) (by decide)]; exact h13
  · have := hT i hi
    unfold TW at this ⊢
    rw [k15, k16, k17, if_neg (by omega), if_neg (by omega), if_neg (by omega), ko 18 (by decide) (by decide) (by decide) (by decide), ko 13 (by decide) (by decide) (by decide) (by decide)]
    exact this
  · rw [List.length_append] at hj
    have hj : j < W.length + 1 := hj
    rw [k15, k16, k17]
    by_cases q : j = W.length
    · rw [gD_eq q, if_pos (by omega), if_pos (by omega), if_pos (by omega)]
      exact ⟨rfl, rfl, rfl⟩
    · rw [gD_lt (by omega), if_neg (by omega), if_neg (by omega), if_neg (by omega)]
      exact hW j (by omega)
  · have hc : j = 15 ∨ j = 16 ∨ j = 17 ∨ j = 18 := by omega
    rcases hc with r | r | r | r
    · rw [r, k15, if_neg (by omega)]
    · rw [r, k16, if_neg (by omega)]
    · rw [r, k17, if_neg (by omega)]
    · rw [r, ko 18 (by decide) (by decide) (by decide) (by decide)]
  · rw [k14, if_neg hx]
  · rw [ko 19 (by decide) (by decide) (by decide) (by decide)]
theorem s107x {p : Int} (hp : 0 ≤ p ∧ p < 128) (hq : 0 ≤ v 15 p ∧ v 15 p < 160) (h1 : smB (v 13 (v 15 p)) = true → Q (Sum.inl (some (.int (iI 1)))) v) (h2 : ¬ smB (v 13 (v 15 p)) = true → Q (Sum.inl (some (.int (iI 0)))) v) : RW g C S m A 107 0 [some (.ref m), some (.int (iI p))] [] v Q := by
  refine qv_R fun hv => ?_
  exact v107_0 ⟨hp, hq, s106 (hv _ _) (fun q => v107_14 ⟨Or.inr rfl, h1 (smB_iff.mpr q)⟩) (fun q => v107_14 ⟨Or.inl rfl, h2 (fun r => q (smB_iff.mp r))⟩)⟩
/-- words' places -/
def WOK (t : List Int) (W : List Wd) : Prop := ∀ k, k < W.length → (W.getD k (0, 0)).1 < (W.getD k (0, 0)).2 ∧ (W.getD k (0, 0)).2 ≤ t.length
/-- the parts of the first k of the words since are set -/
def PtI (v w : VS) (b : Int) (T : List TWd) (x : P5) (k : Nat) : Prop := (∀ j, ¬ j = 18 → w j = v j) ∧ (∀ j : Nat, j < k → w 18 (64 * b + ((T.length + j : Nat) : Int)) = ptO x j) ∧ ∀ z : Int, (z < 64 * b + T.length ∨ 64 * b + T.length + k ≤ z) → w 18 z = v 18 z
theorem PtI.z {x : P5} : PtI v v b T x 0 := ⟨fun _ _ => rfl, fun j hj => absurd hj (Nat.not_lt_zero _), fun _ _ => rfl⟩
theorem PtI.s {w : VS} {x : P5} {k : Nat} {z : Int} (h : PtI v w b T x k) (hz : ptO x k = z) : PtI v (uv w 18 (64 * b + T.length + k) z) b T x (k + 1) := by
  refine ⟨fun j hj => by rw [uv_j hj]; exact h.1 j hj, fun j hj => ?_, fun y hy => ?_⟩
  · rw [uv_s]
    by_cases q : j = k
    · rw [q, if_pos (by omega), hz]
    · rw [if_neg (by omega)]
      exact h.2.1 j (by omega)
  · rw [uv_s, if_neg (by omega)]
    exact h.2.2 y (by omega)
/-- the end of endPerson: all parts are set -/
theorem s109z {x : P5} {w : VS} {l2 l3 l4 l5 l6 l7 l8 l9 : Option Value} (hb : b = 0 ∨ b = 1) (hI : RdI v b t T P W) (hWt : WOK t W) (ht : t.length ≤ 80) (hn : T.length + W.length ≤ 64) (hP : P ≤ 100) (hp : PtI v w b T x W.length) (h : ∀ w, RdI w b t (T ++ tgR t P x W) (P + 1) [] → FrB b v w → Q (Sum.inl none) w) : RW g C S m A 109 223 [some (.ref m), some (.int (iI b)), l2, l3, l4, l5, l6, l7, l8, l9] [] w Q := by
  obtain ⟨h14, h19, h13, hT, hW⟩ := hI
  obtain ⟨p1, p2, p3⟩ := hp
  have e19 : w 19 = v 19 := p1 19 (by decide)
  refine v109_223 ?_
  rw [e19]
  refine ⟨by omega, by omega, by omega, fun u eu => ?_⟩
  have k19 : ∀ x, u 19 x = if x = b then (P : Int) + 1 else v 19 x := fun x => by rw [eu, uv_s, e19, h19]
  have ko : ∀ j, ¬ j = 19 → u j = w j := fun j q => by rw [eu, uv_j q]
  have ko' : ∀ j, ¬ j = 19 → ¬ j = 18 → u j = v j := fun j q q' => by rw [ko j q, p1 j q']
  have hl : (tgR t P x W).length = W.length := tgR_len
  refine h u ⟨?_, ?_, ?_, fun i hi => ?_, fun j hj => absurd hj (Nat.not_lt_zero _)⟩ ⟨fun j hj => ko' j (by omega) (by omega), fun x _ => by rw [ko' 13 (by decide) (by decide)], fun j q1 q2 y hy => ?_, fun y hy => ⟨by rw [ko' 14 (by decide) (by decide)], by rw [k19, if_neg hy]⟩⟩
  · rw [ko' 14 (by decide) (by decide), h14, List.length_append, hl]
    show (T.length : Int) + W.length = ((T.length + W.length : Nat) : Int) + ((0 : Nat) : Int)
    omega
  · rw [k19, if_pos rfl]; rfl
  · rw [ko' 13 (by decide) (by decide)]; exact h13
  · rw [List.length_append, hl] at hi
    by_cases q : i < T.length
    · rw [gA_lt q]
      have := hT i q
      unfold TW at this ⊢
      rw [ko' 13 (by decide) (by decide), ko' 15 (by decide) (by decide), ko' 16 (by decide) (by decide), ko' 17 (by decide) (by decide), ko 18 (by decide), p3 _ (by omega)]
      exact this
    · obtain ⟨k, rfl⟩ : ∃ k, i = T.length + k := ⟨i - T.length, by omega⟩
      rw [gA_ge (by omega), show T.length + k - T.length = k by omega, tgR_get (by omega)]
      obtain ⟨q1, q2, q3⟩ := hW k (by omega)
      obtain ⟨q4, q5⟩ := hWt k (by omega)
      have hsl := sl_len (l := t) (f := (W.getD k (0, 0)).1) q5
      unfold TW twd
      dsimp only
      rw [ko' 13 (by decide) (by decide), ko' 15 (by decide) (by decide), ko' 16 (by decide) (by decide), ko' 17 (by decide) (by decide), ko 18 (by decide), p2 k (by omega), q1, q2, q3, hsl]
      refine ⟨⟨rfl, rfl⟩, by omega, fun i hi => ?_, by omega⟩
      rw [hsl] at hi
      rw [sl_get (by omega), ← h13 ((W.getD k (0, 0)).1 + i) (by omega)]
      congr 1
      omega
  · have hc : j = 15 ∨ j = 16 ∨ j = 17 ∨ j = 18 := by omega
    rcases hc with r | r | r | r
    · rw [r, ko' 15 (by decide) (by decide)]
    · rw [r, ko' 16 (by decide) (by decide)]
    · rw [r, ko' 17 (by decide) (by decide)]
    · rw [r, ko 18 (by decide), p3 _ (by omega)]
theorem s109 {B : Option Nat} (hb : b = 0 ∨ b = 1) (hI : RdI v b t T P W) (hWt : WOK t W) (ht : t.length ≤ 80) (hn : T.length + W.length ≤ 64) (hP : P ≤ 100) (hB : ∀ m, B = some m → m ≤ W.length) (h0 : W = [] → Q (Sum.inl none) v) (h : ¬ W = [] → ∀ w, RdI w b t (T ++ tgR t P (p5 t W B) W) (P + 1) [] → FrB b v w → Q (Sum.inl none) w) : RW g C S m A 109 0 [some (.ref m), some (.int (iI b)), some (.int (iI T.length)), some (.int (iI (cro B))), none, none, none, none, none, none] [] v Q := by
  have hI' := hI
  obtain ⟨h14, h19, h13, hT, hW⟩ := hI
  have hcr : cro B = -1 ∨ (0 ≤ cro B ∧ cro B ≤ 64) := by
    cases B with
    | none => exact Or.inl rfl
    | some m =>
      have := hB m rfl
      exact Or.inr ⟨by show (0 : Int) ≤ (m : Int); omega, by show (m : Int) ≤ 64; omega⟩
  have en : v 14 b - (T.length : Int) = W.length := by omega
  refine v109_0 ?_ (hx3 := by omega)
  rw [en]
  refine ⟨by omega, by omega, fun q => ⟨by omega, by omega, by omega, by omega, fun q1 => ?_, fun q1 => ?_⟩, fun q => h0 (List.eq_nil_of_length_eq_zero (by omega))⟩
  · cases B with
    | none => exact absurd rfl q1
    | some M =>
      have hm := hB M rfl
      have hW0 : ¬ W = [] := fun r => q (by rw [r]; rfl)
      have hlen : 0 < W.length := List.length_pos_iff.mpr hW0
      have key2 : ∀ (n k : Nat) (w : VS) {l2 l6 l7 l9 : Option Value}, W.length - k = n → k ≤ W.length → fst' (fun k => !smW t W k) (M - 1) 0 ≤ k → PtI v w b T (p5 t W (some M)) k → RW g C S m A 109 189 [some (.ref m), some (.int (iI b)), l2, some (.int (iI (M : Int))), some (.int (iI (W.length : Int))), some (.int (iI (64 * b + T.length))), l6, l7, some (.int (iI (k : Int))), l9] [] w Q := by
        intro n
        induction n with
        | zero =>
          intro k w l2 l6 l7 l9 e1 e2 e3 hp
          refine v109_189 ⟨fun _ => s109z hb hI' hWt ht hn hP (by rw [show W.length = k by omega]; exact hp) (h hW0), fun r => by omega⟩
        | succ n ih =>
          intro k w l2 l6 l7 l9 e1 e2 e3 hp
          have pt : ∀ z : Int, (M ≤ k ∧ z = 0) ∨ (k < M ∧ z = 2) → ptO (p5 t W (some M)) k = z := fun z hz => by
            unfold ptO
            show (if M ≤ k ∧ k < W.length then (0 : Int) else if 0 ≤ k ∧ k < fst' (fun k => !smW t W k) (M - 1) 0 then 1 else 2) = z
            rcases hz with ⟨r1, r2⟩ | ⟨r1, r2⟩
            · rw [if_pos (by omega), r2]
            · rw [if_neg (by omega), if_neg (by omega), r2]
          refine v109_189 ⟨fun r => by omega, fun _ => ⟨by omega, fun r => v109_216 ⟨by omega, fun u eu => ⟨by omega, ?_⟩⟩, fun r => v109_216 ⟨by omega, fun u eu => ⟨by omega, ?_⟩⟩⟩⟩
          · rw [eu]
            exact ih (k + 1) _ (by omega) (by omega) (by omega) (hp.s (pt 0 (Or.inl ⟨by omega, rfl⟩)))
          · rw [eu]
            exact ih (k + 1) _ (by omega) (by omega) (by omega) (hp.s (pt 2 (Or.inr ⟨by omega, rfl⟩)))
      have key : ∀ (n k : Nat) (w : VS) {l2 l6 l7 l9 : Option Value}, (M - 1) - k = n → k ≤ M - 1 → (∀ j, j < k → smW t W j = true) → PtI v w b T (p5 t W (some M)) k → RW g C S m A 109 152 [some (.ref m), some (.int (iI b)), l2, some (.int (iI (M : Int))), some (.int (iI (W.length : Int))), some (.int (iI (64 * b + T.length))), l6, l7, some (.int (iI (k : Int))), l9] [] w Q := by
        intro n
        induction n with
        | zero =>
          intro k w l2 l6 l7 l9 e1 e2 e3 hp
          have hf : fst' (fun k => !smW t W k) (M - 1) 0 = k := fst_uniq (Nat.zero_le _) (by omega) (fun j _ hj s => by have := e3 j hj; simp [this] at s) (Or.inl (by omega))
          refine v109_152 ⟨by omega, fun _ => key2 _ k w rfl (by omega) (by omega) hp, fun r => by omega⟩
        | succ n ih =>
          intro k w l2 l6 l7 l9 e1 e2 e3 hp
          obtain ⟨q15, q13⟩ : w 15 = v 15 ∧ w 13 = v 13 := ⟨hp.1 15 (by decide), hp.1 13 (by decide)⟩
          obtain ⟨r1, r2, r3⟩ := hW k (by omega)
          obtain ⟨r4, r5⟩ := hWt k (by omega)
          have hpos : 64 * b + (T.length : Int) + (k : Int) = 64 * b + ((T.length + k : Nat) : Int) := by omega
          have hsm : smB (w 13 (w 15 (64 * b + T.length + k))) = smW t W k := by
            rw [q13, q15, hpos, r2, h13 _ (by omega)]
            rfl
          refine v109_152 ⟨by omega, fun r => by omega, fun _ => ⟨by omega, s107x (by omega) (by rw [q15, hpos, r2]; omega) (fun s => ?_) (fun s => ?_)⟩⟩
          · rw [hsm] at s
            refine v109_169 ⟨fun r => by omega, fun _ => ⟨by omega, by omega, fun u eu => ⟨by omega, ?_⟩⟩⟩
            rw [eu]
            refine ih (k + 1) _ (by omega) (by omega) (fun j hj => ?_) (hp.s ?_)
            · by_cases q : j = k
              · rw [q]; exact s
              · exact e3 j (by omega)
            · have hk1 : k + 1 ≤ fst' (fun k => !smW t W k) (M - 1) 0 := by
                have hle := fst_le (P := fun k => !smW t W k) (n := M - 1) (k := 0)
                apply Decidable.of_not_not
                intro hc
                have hsp : ∀ (n k : Nat), fst' (fun k => !smW t W k) n k = k + n ∨ smW t W (fst' (fun k => !smW t W k) n k) = false := by
                  intro n
                  induction n with
                  | zero => intro k; exact Or.inl rfl
                  | succ n ih =>
                    intro k
                    unfold fst'
                    split
                    · next hh => exact Or.inr (by simpa using hh)
                    · exact (ih (k + 1)).imp (fun hh => by omega) id
                rcases hsp (M - 1) 0 with hh | hh
                · omega
                · by_cases q : fst' (fun k => !smW t W k) (M - 1) 0 = k
                  · rw [q, s] at hh; cases hh
                  · rw [e3 _ (by omega)] at hh; cases hh
              unfold ptO
              show (if M ≤ k ∧ k < W.length then (0 : Int) else if 0 ≤ k ∧ k < fst' (fun k => !smW t W k) (M - 1) 0 then 1 else 2) = 1
              rw [if_neg (by omega), if_pos (by omega)]
          · rw [hsm] at s
            have hf : fst' (fun k => !smW t W k) (M - 1) 0 = k := fst_uniq (Nat.zero_le _) (by omega) (fun j _ hj s => by have := e3 j hj; simp [this] at s) (Or.inr (by simpa using s))
            exact v109_169 ⟨fun _ => key2 _ k w rfl (by omega) (by omega) hp, fun r => absurd rfl r⟩
      exact key _ 0 v rfl (Nat.zero_le _) (fun j hj => absurd hj (Nat.not_lt_zero _)) PtI.z
  · cases B with
    | some M => exact absurd q1 (by show ¬ (M : Int) = -1; omega)
    | none =>
      have hW0 : ¬ W = [] := fun r => q (by rw [r]; rfl)
      have hlen : 0 < W.length := List.length_pos_iff.mpr hW0
      have key2 : ∀ (n k : Nat) (w : VS) {l2 l3 l8 : Option Value}, W.length - k = n → k ≤ W.length → PtI v w b T (p5 t W none) k → RW g C S m A 109 100 [some (.ref m), some (.int (iI b)), l2, l3, some (.int (iI (W.length : Int))), some (.int (iI (64 * b + T.length))), some (.int (iI ((p5 t W none).2.1 : Int))), some (.int (iI ((p5 t W none).2.2.2.1 : Int))), l8, some (.int (iI (k : Int)))] [] w Q := by
        obtain ⟨⟨b1, b2, b3, b4, b5⟩, b6, b7, b8⟩ := p5_ok (t := t) (B := none) hW0 (fun m hm => (by cases hm))
        intro n
        induction n with
        | zero =>
          intro k w l2 l3 l8 e1 e2 hp
          refine v109_100 ⟨fun _ => s109z hb hI' hWt ht hn hP (by rw [show W.length = k by omega]; exact hp) (h hW0), fun r => by omega⟩
        | succ n ih =>
          intro k w l2 l3 l8 e1 e2 hp
          obtain ⟨c1, c2, c3⟩ := b8 k (by omega)
          have d1 : (p5 t W none).1 = 0 := rfl
          have d2 : (p5 t W none).2.2.1 = (p5 t W none).2.1 := rfl
          have d3 : (p5 t W none).2.2.2.2 = W.length := rfl
          refine v109_100 ⟨fun r => by omega, fun _ => ⟨by omega, fun r => ⟨fun r2 => v109_139 ⟨by omega, fun u eu => ⟨by omega, ?_⟩⟩, fun r2 => v109_139 ⟨by omega, fun u eu => ⟨by omega, ?_⟩⟩⟩, fun r => v109_139 ⟨by omega, fun u eu => ⟨by omega, ?_⟩⟩⟩⟩
          · rw [eu]
            exact ih (k + 1) _ (by omega) (by omega) (hp.s (c3.mpr (by omega)))
          · rw [eu]
            exact ih (k + 1) _ (by omega) (by omega) (hp.s (c2.mpr (by omega)))
          · rw [eu]
            exact ih (k + 1) _ (by omega) (by omega) (hp.s (c1.mpr (by omega)))
      have key : ∀ (n k fi la any : Nat) {l2 l3 : Option Value}, (W.length - 1) - k = n → k ≤ W.length - 1 → ((any = 0 ∧ fi = W.length - 1 ∧ la = W.length - 1 ∧ ∀ j, j < k → ¬ smW t W j = true) ∨ (any = 1 ∧ fi < la ∧ la ≤ k ∧ (∀ j, j < fi → ¬ smW t W j = true) ∧ smW t W fi = true ∧ smW t W (la - 1) = true ∧ ∀ j, la ≤ j → j < k → ¬ smW t W j = true)) → RW g C S m A 109 47 [some (.ref m), some (.int (iI b)), l2, l3, some (.int (iI (W.length : Int))), some (.int (iI (64 * b + T.length))), some (.int (iI (fi : Int))), some (.int (iI (la : Int))), some (.int (iI (any : Int))), some (.int (iI (k : Int)))] [] v Q := by
        intro n
        induction n with
        | zero =>
          intro k fi la any l2 l3 e1 e2 e3
          have hk : k = W.length - 1 := by omega
          have hfi : (p5 t W none).2.1 = fi := by
            show fst' (smW t W) (W.length - 1) 0 = fi
            rcases e3 with ⟨c1, c2, c3, c4⟩ | ⟨c1, c2, c3, c4, c5, c6, c7⟩
            · exact fst_uniq (Nat.zero_le _) (by omega) (fun j _ hj => c4 j (by omega)) (Or.inl (by omega))
            · exact fst_uniq (Nat.zero_le _) (by omega) (fun j _ hj => c4 j hj) (Or.inr c5)
          have hla : (p5 t W none).2.2.2.1 = la := by
            show bck (smW t W) (p5 t W none).2.1 (W.length - 1) = la
            rw [hfi]
            rcases e3 with ⟨c1, c2, c3, c4⟩ | ⟨c1, c2, c3, c4, c5, c6, c7⟩
            · exact bck_uniq (by omega) (by omega) (fun j q1 q2 => by omega) (Or.inl (by omega))
            · exact bck_uniq (by omega) (by omega) (fun j q1 q2 => c7 j q1 (by omega)) (Or.inr ⟨by omega, c6⟩)
          rw [← hfi, ← hla]
          have hany : any = 0 ∨ any = 1 := by omega
          have hbd := p5_ok (t := t) (B := none) hW0 (fun m hm => (by cases hm))
          exact v109_47 ⟨by omega, fun _ => key2 _ 0 v rfl (Nat.zero_le _) PtI.z, fun r => by omega⟩ (hx6 := by omega) (hx7 := by omega)
        | succ n ih =>
          intro k fi la any l2 l3 e1 e2 e3
          obtain ⟨r1, r2, r3⟩ := hW k (by omega)
          obtain ⟨r4, r5⟩ := hWt k (by omega)
          have hpos : 64 * b + (T.length : Int) + (k : Int) = 64 * b + ((T.length + k : Nat) : Int) := by omega
          have hsm : smB (v 13 (v 15 (64 * b + T.length + k))) = smW t W k := by
            rw [hpos, r2, h13 _ (by omega)]
            rfl
          refine v109_47 ⟨by omega, fun r => by omega, fun _ => ⟨by omega, s107x (by omega) (by rw [hpos, r2]; omega) (fun s => ?_) (fun s => ?_)⟩⟩
          · rw [hsm] at s
            refine v109_65 ⟨fun r => by omega, fun _ => ⟨fun r => v109_80 ⟨by omega, v109_91 ⟨by omega, ?_⟩⟩, fun r => v109_80 ⟨by omega, v109_91 ⟨by omega, ?_⟩⟩⟩⟩
            · refine ih (k + 1) k (k + 1) 1 (by omega) (by omega) (Or.inr ⟨rfl, by omega, by omega, fun j hj => ?_, s, s, fun j q1 q2 => by omega⟩)
              rcases e3 with ⟨c1, c2, c3, c4⟩ | ⟨c1, -⟩
              · exact c4 j hj
              · omega
            · rcases e3 with ⟨c1, -⟩ | ⟨c1, c2, c3, c4, c5, c6, c7⟩
              · omega
              · exact ih (k + 1) fi (k + 1) 1 (by omega) (by omega) (Or.inr ⟨rfl, by omega, by omega, c4, c5, s, fun j q1 q2 => by omega⟩)
          · rw [hsm] at s
            refine v109_65 ⟨fun _ => v109_91 ⟨by omega, ?_⟩, fun r => absurd rfl r⟩
            refine ih (k + 1) fi la any (by omega) (by omega) ?_
            rcases e3 with ⟨c1, c2, c3, c4⟩ | ⟨c1, c2, c3, c4, c5, c6, c7⟩
            · refine Or.inl ⟨c1, c2, c3, fun j hj => ?_⟩
              by_cases q : j = k
              · rw [q]; exact s
              · exact c4 j (by omega)
            · refine Or.inr ⟨c1, c2, by omega, c4, c5, c6, fun j q1 q2 => ?_⟩
              by_cases q : j = k
              · rw [q]; exact s
              · exact c7 j q1 (by omega)
      have := key _ 0 (W.length - 1) (W.length - 1) 0 (l2 := some (.int (iI (T.length : Int)))) (l3 := some (.int (iI (-1)))) rfl (Nat.zero_le _) (Or.inl ⟨rfl, rfl, rfl, fun j hj => absurd hj (Nat.not_lt_zero _)⟩)
      rw [show ((W.length - 1 : Nat) : Int) = (W.length : Int) - 1 by omega] at this
      exact this
end RRead
