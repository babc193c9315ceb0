/-! tagged words: whose, which part (0 given, 1 particle, 2 family), characters -/
abbrev TWd : Type := Int × Int × List Int
def sel (T : List TWd) (p q : Int) : List (List Int) := (T.filter (fun t => decide (t.1 = p ∧ t.2.1 = q))).map (fun t => t.2.2)
theorem sel_snoc (T : List TWd) (t : TWd) (p q : Int) : sel (T ++ [t]) p q = sel T p q ++ if t.1 = p ∧ t.2.1 = q then [t.2.2] else [] := by
  unfold sel
  rw [List.filter_append, List.map_append]
  congr 1
  by_cases h : t.1 = p ∧ t.2.1 = q
  · rw [if_pos h]
    simp [h]
  · rw [if_neg h]
    simp only [List.filter, h, decide_false]
    rfl
theorem take_snoc {α : Type} {l : List α} {d : α} {i : Nat} (h : i < l.length) : l.take (i + 1) = l.take i ++ [l.getD i d] := by
  rw [List.take_add_one, List.getD_eq_getElem?_getD, List.getElem?_eq_getElem h]
  rfl
/-- letters of words, a blank for each -/
def wl (ws : List (List Int)) : Nat := (ws.map (fun w => w.length + 1)).sum
theorem wl_app (a b : List (List Int)) : wl (a ++ b) = wl a + wl b := by
  unfold wl
  rw [List.map_append, List.sum_append]
theorem wl_one (w : List Int) : wl [w] = w.length + 1 := by simp [wl]
theorem jn_len : ∀ ws : List (List Int), (jn ws).length + (if ws = [] then 0 else 1) = wl ws
  | [] => rfl
  | w :: ws => by
    have h : ∀ ws : List (List Int), (ws.flatMap (fun x => 32 :: x)).length = wl ws := fun ws => by
      induction ws with
      | nil => rfl
      | cons x xs ih =>
        rw [List.flatMap_cons, List.length_append, ih, show x :: xs = [x] ++ xs from rfl, wl_app, wl_one]
        rfl
    rw [if_neg (by simp), show w :: ws = [w] ++ ws from rfl, wl_app, wl_one]
    show (w ++ ws.flatMap (fun x => 32 :: x)).length + 1 = _
    rw [List.length_append, h]
    omega
theorem jn_le (ws : List (List Int)) : (jn ws).length ≤ wl ws := by
  have := jn_len ws
  omega
theorem wl_take_le (T : List TWd) (p q : Int) (i : Nat) : wl (sel (T.take i) p q) ≤ wl (sel T p q) := by
  have h : sel T p q = sel (T.take i) p q ++ sel (T.drop i) p q := by
    unfold sel
    rw [← List.map_append, ← List.filter_append, List.take_append_drop]
  rw [h, wl_app]
  omega
def wd0 : TWd := (0, 0, [])
/-- the reference has read words into its side b -/
def WdR (v : VS) (b : Int) (T : List TWd) : Prop := (b = 0 ∨ b = 1) ∧ v 14 b = T.length ∧ T.length ≤ 40 ∧ ∀ i : Nat, i < T.length →
  (v 17 (64 * b + i) = (T.getD i wd0).1 ∧ v 18 (64 * b + i) = (T.getD i wd0).2.1) ∧ (80 * b ≤ v 15 (64 * b + i) ∧ v 15 (64 * b + i) + (T.getD i wd0).2.2.length = v 16 (64 * b + i) ∧ v 16 (64 * b + i) ≤ 80 * b + 80) ∧ Hd (v 13) (v 15 (64 * b + i)) (T.getD i wd0).2.2 ∧ 1 ≤ (T.getD i wd0).2.2.length
theorem WdR.fr {v w : VS} {b : Int} {T : List TWd} (h : WdR v b T) (hf : FrO v w) : WdR w b T := by
  obtain ⟨h0, h1, h2, h3⟩ := h
  refine ⟨h0, by rw [hf 14 (by decide) (by decide)]; exact h1, h2, fun i hi => ?_⟩
  rw [hf 17 (by decide) (by decide), hf 18 (by decide) (by decide), hf 15 (by decide) (by decide), hf 16 (by decide) (by decide), hf 13 (by decide) (by decide)]
  exact h3 i hi
section RWords
variable {g : Nat → Nat} {C S m : Nat} {A : Nat → Nat} {v : VS} {Q : Rs → VS → Prop} {l : List Int} {T : List TWd} {b p q : Int}
/-- the characters of one word -/
theorem s115a {X : List Int} {x1 x2 x3 x4 x5 x6 x7 : Int} (hR : (-2147483648 ≤ x1 ∧ x1 ≤ 2147483647) ∧ (-2147483648 ≤ x2 ∧ x2 ≤ 2147483647) ∧ (-2147483648 ≤ x3 ∧ x3 ≤ 2147483647) ∧ (-2147483648 ≤ x4 ∧ x4 ≤ 2147483647) ∧ (-2147483648 ≤ x5 ∧ x5 ≤ 2147483647) ∧ (-2147483648 ≤ x6 ∧ x6 ≤ 2147483647)) (h7 : 0 ≤ x7 ∧ x7 < 128) :
    ∀ (n i : Nat) (u : VS) (l : List Int), X.length - i = n → i ≤ X.length → 0 ≤ u 15 x7 → u 15 x7 + X.length = u 16 x7 → u 16 x7 ≤ 160 → Hd (u 13) (u 15 x7) X → One u l → l.length + n ≤ 1000 → (∀ w, One w (l ++ X.drop i) → FrO u w → RW g C S m A 115 105 [some (.ref m), some (.int (iI x1)), some (.int (iI x2)), some (.int (iI x3)), some (.int (iI x4)), some (.int (iI x5)), some (.int (iI x6)), some (.int (iI x7)), some (.int (iI (u 16 x7)))] [] w Q) →
    RW g C S m A 115 76 [some (.ref m), some (.int (iI x1)), some (.int (iI x2)), some (.int (iI x3)), some (.int (iI x4)), some (.int (iI x5)), some (.int (iI x6)), some (.int (iI x7)), some (.int (iI (u 15 x7 + i)))] [] u Q := by
  intro n
  induction n with
  | zero =>
    intro i u l e1 e2 e3 e4 e5 hH hO hl h
    rw [List.drop_eq_nil_of_le (by omega), List.append_nil] at h
    have e6 : u 15 x7 + i = u 16 x7 := by omega
    rw [e6]
    exact v115_76 ⟨h7, fun _ => h u hO FrO.rfl, fun q => by omega⟩
  | succ n ih =>
    intro i u l e1 e2 e3 e4 e5 hH hO hl h
    refine qv_R fun hv => ?_
    have e6 := hH i (by omega)
    refine v115_76 ⟨h7, fun q => by omega, fun _ => ⟨by omega, s111 hO (by omega) (hv _ _) (fun w hw hf => v115_99 ⟨by omega, ?_⟩)⟩⟩
    have f5 : w 15 = u 15 := hf 15 (by decide) (by decide)
    have f6 : w 16 = u 16 := hf 16 (by decide) (by decide)
    have f3 : w 13 = u 13 := hf 13 (by decide) (by decide)
    have := ih (i + 1) w (l ++ [u 13 (u 15 x7 + i)]) (by omega) (by omega) (by rw [f5]; exact e3) (by rw [f5, f6]; exact e4) (by rw [f6]; exact e5) (by rw [f3, f5]; exact hH) hw (by rw [List.length_append]; show _ + 1 + _ ≤ _; omega) (fun w' hw' hf' => by
      rw [f6]
      refine h w' ?_ (hf.trans hf')
      rw [drop_cons (by omega), ← e6]
      rw [List.append_assoc] at hw'
      exact hw')
    rw [f5] at this
    rw [show u 15 x7 + (i : Int) + 1 = u 15 x7 + ((i + 1 : Nat) : Int) by omega]
    exact this
theorem s115 {most : Int} (hT : WdR v b T) (hp : -2147483648 ≤ p ∧ p ≤ 2147483647) (hq : -2147483648 ≤ q ∧ q ≤ 2147483647) (hm : 0 ≤ most ∧ most ≤ 1000) (hO : One v l) (hl : l.length + wl (sel T p q) ≤ 1000) (h : ∀ w, One w (l ++ (jn (sel T p q)).take most.toNat) → FrO v w → Q (Sum.inl none) w) : RW g C S m A 115 0 [some (.ref m), some (.int (iI b)), some (.int (iI p)), some (.int (iI q)), some (.int (iI most)), none, none, none, none] [] v Q := by
  have hb := hT.1
  have h21 := hO.1
  refine v115_0 ⟨by omega, ?_⟩
  have key : ∀ (n i : Nat) (u : VS) {l8 : Option Value}, T.length - i = n → i ≤ T.length → FrO v u → One u (l ++ jn (sel (T.take i) p q)) → RW g C S m A 115 15 [some (.ref m), some (.int (iI b)), some (.int (iI p)), some (.int (iI q)), some (.int (iI most)), some (.int (iI l.length)), some (.int (iI (if sel (T.take i) p q = [] then 0 else 1))), some (.int (iI (64 * b + i))), l8] [] u Q := by
    intro n
    induction n with
    | zero =>
      intro i u l8 e1 e2 hf hu
      obtain ⟨-, t1, t2, t3⟩ := hT.fr hf
      have e3 : T.take i = T := List.take_of_length_le (by omega)
      rw [e3] at hu ⊢
      have hs := jn_le (sel T p q)
      have e4 := hu.1
      rw [List.length_append] at e4
      refine v115_15 ⟨by omega, by omega, by omega, fun _ => ⟨by omega, fun r => v115_136 (fun w ew => h w ?_ ?_) (by omega), fun r => ⟨by omega, v115_136 (fun w ew => h w ?_ ?_) (by omega)⟩⟩, fun r => by omega⟩ (hx6 := by split <;> omega)
      · rw [List.take_of_length_le (by omega)]
        refine ⟨by rw [ew, uv_eq]; exact hu.1, ?_⟩
        rw [ew, uv_j (by decide)]
        exact hu.2
      · intro j q1 q2
        rw [ew, uv_j q2]
        exact hf j q1 q2
      · refine ⟨by rw [ew, uv_eq, List.length_append, List.length_take]; omega, ?_⟩
        rw [ew, uv_j (by decide)]
        intro k hk
        rw [List.length_append, List.length_take] at hk
        rw [hu.2 k (by rw [List.length_append]; omega)]
        by_cases r2 : k < l.length
        · rw [List.getD_eq_getElem?_getD, List.getD_eq_getElem?_getD, List.getElem?_append_left r2, List.getElem?_append_left r2]
        · rw [List.getD_eq_getElem?_getD, List.getD_eq_getElem?_getD, List.getElem?_append_right (by omega), List.getElem?_append_right (by omega), List.getElem?_take_of_lt (by omega)]
      · intro j q1 q2
        rw [ew, uv_j q2]
        exact hf j q1 q2
    | succ n ih =>
      intro i u l8 e1 e2 hf hu
      have hT' := hT.fr hf
      obtain ⟨-, t1, t2, t3⟩ := hT'
      obtain ⟨⟨a1, a2⟩, ⟨a3, a4, a5⟩, a6, a7⟩ := t3 i (by omega)
      have e3 : sel (T.take (i + 1)) p q = sel (T.take i) p q ++ if (T.getD i wd0).1 = p ∧ (T.getD i wd0).2.1 = q then [(T.getD i wd0).2.2] else [] := by
        rw [take_snoc (d := wd0) (by omega), sel_snoc]
      have hwl := wl_take_le T p q (i + 1)
      have hjl := jn_len (sel (T.take i) p q)
      have next : ∀ {l8 : Option Value}, ¬ ((T.getD i wd0).1 = p ∧ (T.getD i wd0).2.1 = q) → RW g C S m A 115 105 [some (.ref m), some (.int (iI b)), some (.int (iI p)), some (.int (iI q)), some (.int (iI most)), some (.int (iI l.length)), some (.int (iI (if sel (T.take i) p q = [] then 0 else 1))), some (.int (iI (64 * b + i))), l8] [] u Q := fun hn => by
        rw [if_neg hn, List.append_nil] at e3
        refine v115_105 ⟨by omega, ?_⟩ (hx6 := by split <;> omega)
        rw [show 64 * b + (i : Int) + 1 = 64 * b + ((i + 1 : Nat) : Int) by omega, ← e3]
        exact ih (i + 1) u (by omega) (by omega) hf (by rw [e3]; exact hu)
      have fin : ∀ (u' : VS) (l' : List Int) {l6 l8 : Option Value}, ((T.getD i wd0).1 = p ∧ (T.getD i wd0).2.1 = q) → FrO v u' → One u' l' → l'.length + (T.getD i wd0).2.2.length ≤ 1000 → l' ++ (T.getD i wd0).2.2 = l ++ jn (sel (T.take (i + 1)) p q) → RW g C S m A 115 64 [some (.ref m), some (.int (iI b)), some (.int (iI p)), some (.int (iI q)), some (.int (iI most)), some (.int (iI l.length)), l6, some (.int (iI (64 * b + i))), l8] [] u' Q := fun u' l' l6 l8 hm hf' hu' hl' he => by
        obtain ⟨-, -, -, t3'⟩ := hT.fr hf'
        obtain ⟨-, ⟨b3, b4, b5⟩, b6, b7⟩ := t3' i (by omega)
        refine v115_64 ⟨by omega, ?_⟩
        have := s115a (g := g) (C := C) (S := S) (m := m) (A := A) (Q := Q) (X := (T.getD i wd0).2.2) (x1 := b) (x2 := p) (x3 := q) (x4 := most) (x5 := l.length) (x6 := 1) (x7 := 64 * b + i) ⟨by omega, hp, hq, by omega, by omega, by omega⟩ (by omega) _ 0 u' l' rfl (Nat.zero_le _) (by omega) b4 (by omega) b6 hu' (by omega) (fun w hw hf2 => v115_105 ⟨by omega, by
          rw [show 64 * b + (i : Int) + 1 = 64 * b + ((i + 1 : Nat) : Int) by omega]
          have := ih (i + 1) w (l8 := some (.int (iI (u' 16 (64 * b + i))))) (by omega) (by omega) (hf'.trans hf2) (by rw [← he]; exact hw)
          rw [e3, if_pos hm, if_neg (by simp)] at this
          exact this⟩)
        rw [show u' 15 (64 * b + i) + ((0 : Nat) : Int) = u' 15 (64 * b + i) by omega] at this
        exact this
      refine v115_15 ⟨by omega, by omega, by omega, fun r => by omega, fun _ => ⟨by omega, fun r => next (fun s => r (by rw [a1]; exact s.1)), fun r1 => ⟨by omega, fun r => next (fun s => r (by rw [a2]; exact s.2)), fun r2 => ⟨fun r => ?_, fun r => ?_⟩⟩⟩⟩ (hx6 := by split <;> omega)
      · have hm : (T.getD i wd0).1 = p ∧ (T.getD i wd0).2.1 = q := ⟨by rw [← a1]; exact r1, by rw [← a2]; exact r2⟩
        have r3 : sel (T.take i) p q = [] := Decidable.of_not_not fun s => by rw [if_neg s] at r; omega
        rw [if_pos hm, r3] at e3
        rw [r3] at hu
        have hl2 : l.length + (T.getD i wd0).2.2.length ≤ 1000 := by
          rw [e3, List.nil_append, wl_one] at hwl
          omega
        refine fin u l hm hf (by have : l ++ jn [] = l := List.append_nil l; rw [this] at hu; exact hu) hl2 ?_
        rw [e3]
        simp [jn]
      · have hm : (T.getD i wd0).1 = p ∧ (T.getD i wd0).2.1 = q := ⟨by rw [← a1]; exact r1, by rw [← a2]; exact r2⟩
        have r3 : ¬ sel (T.take i) p q = [] := fun s => by rw [if_pos s] at r; omega
        rw [if_pos hm] at e3
        rw [if_neg r3] at hjl
        have hl2 : l.length + wl (sel (T.take i) p q) + (T.getD i wd0).2.2.length + 1 ≤ 1000 := by
          rw [e3, wl_app, wl_one] at hwl
          omega
        refine s111 hu (by rw [List.length_append]; omega) (by decide) (fun w hw hf2 => fin w _ hm (hf.trans hf2) hw (by rw [List.length_append, List.length_append]; show _ + 1 + _ ≤ _; omega) ?_)
        rw [e3, jn_snoc, if_neg r3]
        simp
  have := key _ 0 v (l8 := none) rfl (Nat.zero_le _) FrO.rfl (by show One v (l ++ []); rw [List.append_nil]; exact hO)
  rw [show 64 * b + ((0 : Nat) : Int) = 64 * b by omega, ← h21] at this
  exact this
theorem s116 (hT : WdR v b T) (hp : -2147483648 ≤ p ∧ p ≤ 2147483647) (hq : -2147483648 ≤ q ∧ q ≤ 2147483647) (h : Q (Sum.inl (some (.int (iI (if sel T p q = [] then 0 else 1))))) v) : RW g C S m A 116 0 [some (.ref m), some (.int (iI b)), some (.int (iI p)), some (.int (iI q)), none, none] [] v Q := by
  obtain ⟨hb, t1, t2, t3⟩ := hT
  refine v116_0 ⟨by omega, ?_⟩
  have key : ∀ (n i : Nat), T.length - i = n → i ≤ T.length → RW g C S m A 116 9 [some (.ref m), some (.int (iI b)), some (.int (iI p)), some (.int (iI q)), some (.int (iI (if sel (T.take i) p q = [] then 0 else 1))), some (.int (iI (64 * b + i)))] [] v Q := by
    intro n
    induction n with
    | zero =>
      intro i e1 e2
      rw [List.take_of_length_le (by omega)]
      exact v116_9 ⟨by omega, by omega, by omega, fun _ => ⟨by split <;> omega, h⟩, fun r => by omega⟩ (hx4 := by split <;> omega)
    | succ n ih =>
      intro i e1 e2
      obtain ⟨⟨a1, a2⟩, -⟩ := t3 i (by omega)
      have e3 : sel (T.take (i + 1)) p q = sel (T.take i) p q ++ if (T.getD i wd0).1 = p ∧ (T.getD i wd0).2.1 = q then [(T.getD i wd0).2.2] else [] := by
        rw [take_snoc (d := wd0) (by omega), sel_snoc]
      have ih := ih (i + 1) (by omega) (by omega)
      have no : ¬ ((T.getD i wd0).1 = p ∧ (T.getD i wd0).2.1 = q) → sel (T.take i) p q = [] → RW g C S m A 116 56 [some (.ref m), some (.int (iI b)), some (.int (iI p)), some (.int (iI q)), some (.int (iI (if sel (T.take i) p q = [] then 0 else 1))), some (.int (iI (64 * b + i)))] [] v Q := fun s s2 => v116_56 (v116_57 ⟨by omega, by
          rw [show 64 * b + (i : Int) + 1 = 64 * b + ((i + 1 : Nat) : Int) by omega]
          rw [e3, if_neg s, s2, List.append_nil, if_pos rfl] at ih
          exact ih⟩)
      have yes : ¬ sel (T.take (i + 1)) p q = [] → RW g C S m A 116 52 [some (.ref m), some (.int (iI b)), some (.int (iI p)), some (.int (iI q)), some (.int (iI (if sel (T.take i) p q = [] then 0 else 1))), some (.int (iI (64 * b + i)))] [] v Q := fun s => v116_52 (v116_57 ⟨by omega, by
          rw [show 64 * b + (i : Int) + 1 = 64 * b + ((i + 1 : Nat) : Int) by omega]
          rw [if_neg s] at ih
          exact ih⟩)
      refine v116_9 ⟨by omega, by omega, by omega, fun r => by omega, fun _ => ⟨fun r => yes ?_, fun r => ⟨by omega, fun r1 => no (fun s => r1 (by rw [a1]; exact s.1)) ?_, fun r1 => ⟨by omega, fun r2 => no (fun s => r2 (by rw [a2]; exact s.2)) ?_, fun r2 => yes ?_⟩⟩⟩⟩ (hx4 := by split <;> omega)
      · rw [e3]
        intro s
        rw [(List.append_eq_nil_iff.mp s).1, if_pos rfl] at r
        exact r rfl
      · exact Decidable.of_not_not fun s => by rw [if_neg s] at r; omega
      · exact Decidable.of_not_not fun s => by rw [if_neg s] at r; omega
      · rw [e3, if_pos ⟨by rw [← a1]; exact r1, by rw [← a2]; exact r2⟩]
        simp
  have := key _ 0 rfl (Nat.zero_le _)
  rw [show 64 * b + ((0 : Nat) : Int) = 64 * b by omega] at this
  exact this
/-- initials of words -/
def ini (w : List Int) : List Int := [w.getD 0 0, 46]
def inits (ws : List (List Int)) : List Int := jn (ws.map ini)
theorem wl_ini (ws : List (List Int)) : wl (ws.map ini) = 3 * ws.length := by
  induction ws with
  | nil => rfl
  | cons w ws ih =>
    rw [List.map_cons, show ini w :: ws.map ini = [ini w] ++ ws.map ini from rfl, wl_app, wl_one, ih]
    show 2 + 1 + _ = 3 * (ws.length + 1)
    omega
theorem sel_len_le (T : List TWd) (p q : Int) (i : Nat) : (sel (T.take i) p q).length ≤ (sel T p q).length := by
  have h : sel T p q = sel (T.take i) p q ++ sel (T.drop i) p q := by
    unfold sel
    rw [← List.map_append, ← List.filter_append, List.take_append_drop]
  rw [h, List.length_append]
  omega
theorem s118 (hT : WdR v b T) (hp : -2147483648 ≤ p ∧ p ≤ 2147483647) (hO : One v l) (hl : l.length + 3 * (sel T p 0).length ≤ 1000) (h : ∀ w, One w (l ++ inits (sel T p 0)) → FrO v w → Q (Sum.inl none) w) : RW g C S m A 118 0 [some (.ref m), some (.int (iI b)), some (.int (iI p)), none, none] [] v Q := by
  have hb := hT.1
  refine v118_0 ⟨by omega, ?_⟩
  have key : ∀ (n i : Nat) (u : VS), T.length - i = n → i ≤ T.length → FrO v u → One u (l ++ inits (sel (T.take i) p 0)) → RW g C S m A 118 8 [some (.ref m), some (.int (iI b)), some (.int (iI p)), some (.int (iI (if sel (T.take i) p 0 = [] then 0 else 1))), some (.int (iI (64 * b + i)))] [] u Q := by
    intro n
    induction n with
    | zero =>
      intro i u e1 e2 hf hu
      obtain ⟨-, t1, t2, t3⟩ := hT.fr hf
      rw [List.take_of_length_le (by omega)] at hu ⊢
      exact v118_8 ⟨by omega, by omega, by omega, fun _ => h u hu hf, fun r => by omega⟩ (hx3 := by split <;> omega)
    | succ n ih =>
      intro i u e1 e2 hf hu
      have hT' := hT.fr hf
      obtain ⟨-, t1, t2, t3⟩ := hT'
      obtain ⟨⟨a1, a2⟩, ⟨a3, a4, a5⟩, a6, a7⟩ := t3 i (by omega)
      have e3 : sel (T.take (i + 1)) p 0 = sel (T.take i) p 0 ++ if (T.getD i wd0).1 = p ∧ (T.getD i wd0).2.1 = 0 then [(T.getD i wd0).2.2] else [] := by
        rw [take_snoc (d := wd0) (by omega), sel_snoc]
      have hln := sel_len_le T p 0 (i + 1)
      have hjl := jn_len ((sel (T.take i) p 0).map ini)
      rw [wl_ini] at hjl
      have next : ¬ ((T.getD i wd0).1 = p ∧ (T.getD i wd0).2.1 = 0) → RW g C S m A 118 79 [some (.ref m), some (.int (iI b)), some (.int (iI p)), some (.int (iI (if sel (T.take i) p 0 = [] then 0 else 1))), some (.int (iI (64 * b + i)))] [] u Q := fun hn => by
        rw [if_neg hn, List.append_nil] at e3
        refine v118_79 ⟨by omega, ?_⟩ (hx3 := by split <;> omega)
        rw [show 64 * b + (i : Int) + 1 = 64 * b + ((i + 1 : Nat) : Int) by omega, ← e3]
        exact ih (i + 1) u (by omega) (by omega) hf (by rw [e3]; exact hu)
      have fin : ∀ (u' : VS) (l' : List Int) {l3 : Option Value}, ((T.getD i wd0).1 = p ∧ (T.getD i wd0).2.1 = 0) → FrO v u' → One u' l' → l'.length + 2 ≤ 1000 → l' ++ ini (T.getD i wd0).2.2 = l ++ inits (sel (T.take (i + 1)) p 0) → RW g C S m A 118 55 [some (.ref m), some (.int (iI b)), some (.int (iI p)), l3, some (.int (iI (64 * b + i)))] [] u' Q := fun u' l' l3 hm hf' hu' hl' he => by
        refine qv_R fun hv => ?_
        obtain ⟨-, -, -, t3'⟩ := hT.fr hf'
        obtain ⟨-, ⟨b3, b4, b5⟩, b6, b7⟩ := t3' i (by omega)
        have b8 := b6 0 (by omega)
        rw [show u' 15 (64 * b + i) + ((0 : Nat) : Int) = u' 15 (64 * b + i) by omega] at b8
        refine v118_55 ⟨by omega, by omega, s111 hu' (by omega) (hv _ _) (fun w hw hf2 => v118_73 (s111 hw (by rw [List.length_append]; show _ + 1 < _; omega) (by decide) (fun w' hw' hf3 => v118_79 ⟨by omega, ?_⟩)))⟩
        rw [show 64 * b + (i : Int) + 1 = 64 * b + ((i + 1 : Nat) : Int) by omega]
        have := ih (i + 1) w' (by omega) (by omega) ((hf'.trans hf2).trans hf3) (by
          rw [← he]
          rw [b8, List.append_assoc] at hw'
          exact hw')
        rw [e3, if_pos hm, if_neg (by simp)] at this
        exact this
      refine v118_8 ⟨by omega, by omega, by omega, fun r => by omega, fun _ => ⟨by omega, fun r => next (fun s => r (by rw [a1]; exact s.1)), fun r1 => ⟨by omega, fun r => next (fun s => r (by rw [a2]; exact s.2)), fun r2 => ⟨fun r => ?_, fun r => ?_⟩⟩⟩⟩ (hx3 := by split <;> omega)
      · have hm : (T.getD i wd0).1 = p ∧ (T.getD i wd0).2.1 = 0 := ⟨by rw [← a1]; exact r1, by rw [← a2]; exact r2⟩
        have r3 : sel (T.take i) p 0 = [] := Decidable.of_not_not fun s => by rw [if_neg s] at r; omega
        rw [if_pos hm, r3] at e3
        rw [r3] at hu
        refine fin u l hm hf (by have : l ++ inits [] = l := List.append_nil l; rw [this] at hu; exact hu) (by rw [e3] at hln; have : (1 : Nat) ≤ (sel T p 0).length := hln; omega) ?_
        rw [e3]
        simp [inits, jn]
      · have hm : (T.getD i wd0).1 = p ∧ (T.getD i wd0).2.1 = 0 := ⟨by rw [← a1]; exact r1, by rw [← a2]; exact r2⟩
        have r3 : ¬ sel (T.take i) p 0 = [] := fun s => by rw [if_pos s] at r; omega
        rw [if_pos hm] at e3
        rw [if_neg (by simpa using r3)] at hjl
        have hl2 : l.length + (jn ((sel (T.take i) p 0).map ini)).length + 4 ≤ 1000 := by
          rw [e3, List.length_append] at hln
          have hln : (sel (T.take i) p 0).length + 1 ≤ (sel T p 0).length := hln
          omega
        have hl3 : l.length + (inits (sel (T.take i) p 0)).length + 4 ≤ 1000 := hl2
        refine s111 hu (by rw [List.length_append]; omega) (by decide) (fun w hw hf2 => fin w _ hm (hf.trans hf2) hw (by rw [List.length_append, List.length_append]; show _ + 1 + _ ≤ _; omega) ?_)
        rw [e3]
        unfold inits
        rw [List.map_append, List.map_cons, List.map_nil, jn_snoc, if_neg (by simpa using r3)]
        simp
  have := key _ 0 v rfl (Nat.zero_le _) FrO.rfl (by show One v (l ++ []); rw [List.append_nil]; exact hO)
  rw [show 64 * b + ((0 : Nat) : Int) = 64 * b by omega] at this
  exact this
theorem s117 (hT : WdR v b T) (hp : -2147483648 ≤ p ∧ p ≤ 2147483647) (hO : One v l) (hl : l.length + wl (sel T p 1) + wl (sel T p 2) + 1 ≤ 1000) (h : ∀ w, One w (l ++ jn (sel T p 1 ++ sel T p 2)) → FrO v w → Q (Sum.inl none) w) : RW g C S m A 117 0 [some (.ref m), some (.int (iI b)), some (.int (iI p))] [] v Q := by
  have hb := hT.1
  have j1 := jn_le (sel T p 1)
  have j2 := jn_le (sel T p 2)
  refine v117_0 (s115 hT hp (by decide) (by decide) hO (by omega) (fun w hw hf => v117_10 (s116 (hT.fr hf) hp (by decide) ?_)))
  have e : (jn (sel T p 1)).take (1000 : Int).toNat = jn (sel T p 1) := List.take_of_length_le (by show _ ≤ 1000; omega)
  rw [e] at hw
  have e2 : (jn (sel T p 2)).take (1000 : Int).toNat = jn (sel T p 2) := List.take_of_length_le (by show _ ≤ 1000; omega)
  refine v117_17 ⟨fun q1 => v117_36 (s115 (hT.fr hf) hp (by decide) (by decide) hw (by rw [List.length_append]; omega) (fun w' hw' hf' => v117_46 (h w' ?_ (hf.trans hf')))), fun q1 => s116 (hT.fr hf) hp (by decide) (v117_27 ⟨fun q2 => v117_36 (s115 (hT.fr hf) hp (by decide) (by decide) hw (by rw [List.length_append]; omega) (fun w' hw' hf' => v117_46 (h w' ?_ (hf.trans hf')))), fun q2 => s111 hw (by rw [List.length_append]; omega) (by decide) (fun w2 hw2 hf2 => v117_36 (s115 (hT.fr (hf.trans hf2)) hp (by decide) (by decide) hw2 (by rw [List.length_append, List.length_append]; show _ + 1 + _ ≤ _; omega) (fun w' hw' hf' => v117_46 (h w' ?_ ((hf.trans hf2).trans hf')))))⟩ (hu0 := by split <;> omega))⟩ (hu0 := by split <;> omega)
  · have r : sel T p 1 = [] := Decidable.of_not_not fun s => by rw [if_neg s] at q1; omega
    rw [e2, r] at hw'
    rw [r]
    simpa [jn] using hw'
  · have r : sel T p 2 = [] := Decidable.of_not_not fun s => by rw [if_neg s] at q2; omega
    rw [e2, r] at hw'
    rw [r]
    simpa [jn] using hw'
  · have r1 : ¬ sel T p 1 = [] := fun s => by rw [if_pos s] at q1; omega
    have r2 : ¬ sel T p 2 = [] := fun s => by rw [if_pos s] at q2; omega
    rw [e2] at hw'
    have : jn (sel T p 1 ++ sel T p 2) = jn (sel T p 1) ++ 32 :: jn (sel T p 2) := by
      cases h1 : sel T p 1 with
      | nil => exact absurd h1 r1
      | cons a as =>
        cases h2 : sel T p 2 with
        | nil => exact absurd h2 r2
        | cons c cs => simp [jn]
    rw [this]
    simpa using hw'
end RWords
