/-! WHAT BOTH COMPUTE: words, persons, texts -/
/-- words with blanks between -/
def jn : List (List Int) → List Int
  | [] => []
  | w :: ws => w ++ ws.flatMap (fun x => 32 :: x)
theorem jn_snoc (ws : List (List Int)) (w : List Int) : jn (ws ++ [w]) = if ws = [] then w else jn ws ++ 32 :: w := by
  cases ws with
  | nil => simp [jn]
  | cons x xs => simp [jn, List.flatMap_append]
/-- a text's places from f to t -/
def sl (l : List Int) (f t : Nat) : List Int := (l.take t).drop f
theorem sl_len {l : List Int} {f t : Nat} (h : t ≤ l.length) : (sl l f t).length = t - f := by
  unfold sl
  rw [List.length_drop, List.length_take]
  omega
theorem sl_get {l : List Int} {f t i : Nat} (h : f + i < t) : (sl l f t).getD i 0 = l.getD (f + i) 0 := by
  unfold sl
  rw [List.getD_eq_getElem?_getD, List.getD_eq_getElem?_getD, List.getElem?_drop, List.getElem?_take_of_lt h]
/-- a part of an array as a list -/
def row (f : Int → Int) (b : Int) : Nat → List Int
  | 0 => []
  | n + 1 => row f b n ++ [f (b + n)]
theorem row_len (f : Int → Int) (b : Int) : ∀ n, (row f b n).length = n
  | 0 => rfl
  | n + 1 => by
    show (row f b n ++ [_]).length = _
    rw [List.length_append, row_len f b n]
    rfl
theorem row_get (f : Int → Int) (b : Int) : ∀ {n i : Nat}, i < n → (row f b n).getD i 0 = f (b + i)
  | 0, i, h => by omega
  | n + 1, i, h => by
    show (row f b n ++ [_]).getD i 0 = _
    by_cases e : i = n
    · subst e
      have := getD_app_eq (l := row f b i) (x := f (b + i))
      rw [row_len] at this
      exact this
    · rw [getD_app_lt (by rw [row_len]; omega)]
      exact row_get f b (by omega)
theorem row_eq {f : Int → Int} {b : Int} {l : List Int} (h : ∀ i : Nat, i < l.length → f (b + i) = l.getD i 0) : row f b l.length = l :=
  ext_getD (row_len _ _ _) (fun i hi => by rw [row_len] at hi; rw [row_get f b hi, h i hi])
/-- an array holds a list from a place on -/
def Hd (f : Int → Int) (b : Int) (l : List Int) : Prop := ∀ i : Nat, i < l.length → f (b + i) = l.getD i 0
theorem Hd.app {f f' : Int → Int} {b : Int} {l : List Int} {x : Int} (h : Hd f b l) (h1 : ∀ i : Nat, i < l.length → f' (b + i) = f (b + i)) (h2 : f' (b + l.length) = x) : Hd f' b (l ++ [x]) := by
  intro i hi
  rw [List.length_append] at hi
  have hi : i < l.length + 1 := hi
  by_cases e : i = l.length
  · rw [e, getD_app_eq]
    exact h2
  · rw [getD_app_lt (by omega), h1 i (by omega)]
    exact h i (by omega)
theorem Hd.at {f : Int → Int} {b x : Int} {l : List Int} (h : Hd f b l) (hx : 0 ≤ x ∧ x < l.length) : f (b + x) = l.getD x.toNat 0 := by
  have := h x.toNat (by omega)
  rw [Int.toNat_of_nonneg hx.1] at this
  exact this
theorem Hd.at0 {f : Int → Int} {x : Int} {l : List Int} (h : Hd f 0 l) (hx : 0 ≤ x ∧ x < l.length) : f x = l.getD x.toNat 0 := by
  have := h.at hx
  rw [Int.zero_add] at this
  exact this
theorem uv_eq {v : VS} {j : Nat} {x z : Int} : uv v j x z j x = z := if_pos ⟨rfl, rfl⟩
theorem uv_ne {v : VS} {j j' : Nat} {x x' z : Int} (h : ¬ (j' = j ∧ x' = x)) : uv v j x z j' x' = v j' x' := if_neg h
theorem uv_j {v : VS} {j j' : Nat} {x z : Int} (h : ¬ j' = j) : uv v j x z j' = v j' := funext fun _ => if_neg (fun q => h q.1)
/-- `one` of the reference -/
def One (v : VS) (l : List Int) : Prop := v 21 0 = l.length ∧ Hd (v 20) 0 l
def FrO (v w : VS) : Prop := ∀ j, ¬ j = 20 → ¬ j = 21 → w j = v j
theorem FrO.rfl {v : VS} : FrO v v := fun _ _ _ => by rfl
theorem FrO.trans {v w u : VS} (h : FrO v w) (h' : FrO w u) : FrO v u := fun j h1 h2 => (h' j h1 h2).trans (h j h1 h2)
section RPut
variable {g : Nat → Nat} {C S m : Nat} {A : Nat → Nat} {v : VS} {Q : Rs → VS → Prop} {l : List Int}
theorem s111 {x : Int} (h1 : One v l) (hl : l.length < 1000) (hx : -2147483648 ≤ x ∧ x ≤ 2147483647) (h : ∀ w, One w (l ++ [x]) → FrO v w → Q (Sum.inl none) w) : RW g C S m A 111 0 [some (.ref m), some (.int (iI x))] [] v Q := by
  have e := h1.1
  refine v111_0 ⟨by omega, fun w2 e2 => ⟨?_, fun w4 e4 => h w4 ⟨?_, ?_⟩ ?_⟩⟩
  · rw [e2, uv_j (by decide)]; omega
  · rw [e4, uv_eq, e2, uv_j (by decide), e, List.length_append]; rfl
  · refine h1.2.app (fun i hi => ?_) ?_
    · rw [e4, uv_j (by decide), e2, uv_ne (fun q => by omega)]
    · rw [e4, uv_j (by decide), e2, e, Int.zero_add, uv_eq]
  · intro j q1 q2
    rw [e4, uv_j q2, e2, uv_j q1]
/-- bytes of a number, the lowest first -/
def byts : Nat → Int → List Int
  | 0, _ => []
  | n + 1, y => if y = 0 then [] else y % 256 :: byts n (y / 256)
theorem s112a : ∀ (n : Nat) (y : Int) (v : VS) (l : List Int) {l1 l2 l4 : Option Value}, 0 ≤ y → y < 256 ^ n → y < 9223372036854775808 → One v l → l.length + (byts n y).length ≤ 1000 → (∀ w, One w (l ++ byts n y) → FrO v w → Q (Sum.inl none) w) → RW g C S m A 112 2 [some (.ref m), l1, l2, some (.long (lI y)), l4] [] v Q
  | 0, y, v, l, l1, l2, l4, h0, h1, h2, hO, hl, h => by
    have : y = 0 := by have : y < 1 := h1; omega
    subst this
    refine v112_2 ⟨fun _ => ?_, fun q => absurd rfl q⟩
    have := h v (by show One v (l ++ []); rw [List.append_nil]; exact hO) FrO.rfl
    exact this
  | n + 1, y, v, l, l1, l2, l4, h0, h1, h2, hO, hl, h => by
    by_cases hy : y = 0
    · subst hy
      refine v112_2 ⟨fun _ => ?_, fun q => absurd rfl q⟩
      have e : byts (n + 1) 0 = [] := rfl
      rw [e] at h
      exact h v (by rw [List.append_nil]; exact hO) FrO.rfl
    · have e : byts (n + 1) y = y % 256 :: byts n (y / 256) := by show (if y = 0 then _ else _) = _; rw [if_neg hy]
      rw [e] at h hl
      have hl' : l.length + ((byts n (y / 256)).length + 1) ≤ 1000 := hl
      refine v112_2 ⟨fun q => ?_, fun _ => s111 hO (by omega) (by omega) (fun w hw hf => ?_)⟩
      · rw [if_neg hy] at q
        omega
      · refine v112_18 ?_
        refine s112a n (y / 256) w (l ++ [y % 256]) (by omega) ?_ (by omega) hw (by rw [List.length_append]; show _ + 1 + _ ≤ _; omega) (fun u hu hf2 => h u ?_ (hf.trans hf2))
        · have : (256 : Int) ^ (n + 1) = 256 ^ n * 256 := Int.pow_succ 256 n
          rw [this] at h1
          exact Int.ediv_lt_of_lt_mul (by omega) h1
        · rw [List.append_assoc] at hu
          exact hu
theorem s112 {y : Int} (hy : 0 ≤ y ∧ y < 9223372036854775808) (hO : One v l) (hl : l.length + (byts 8 y).length ≤ 1000) (h : ∀ w, One w (l ++ byts 8 y) → FrO v w → Q (Sum.inl none) w) : RW g C S m A 112 0 [some (.ref m), some (.long (lI y)), none, none, none] [] v Q :=
  v112_0 (s112a 8 y v l hy.1 (by omega) hy.2 hO hl h)
theorem by_and : byts 8 139123908896 = tx 1 := by decide
theorem by_etal : byts 8 13067013340816672 = tx 2 := by decide
theorem by_comma : byts 8 8236 = tx 5 := by decide
theorem by_in : byts 8 540700233 = tx 7 := by decide
theorem by_pp : byts 8 35383826980908 = tx 8 := by decide
theorem by_ref : byts 8 111542001886546 ++ byts 8 44119840088942 = tx 9 := by decide
/-- putting k characters out of an array, one by one: the shape of three loops -/
theorem s113 {f : Int} {X : List Int} (hX : (f = -1 ∧ X = []) ∨ ((0 ≤ f ∧ f < 192) ∧ v 5 f = X.length ∧ Hd (v 6) (80 * f) X ∧ X.length ≤ 80)) (hO : One v l) (hl : l.length + X.length ≤ 1000) (h : ∀ w, One w (l ++ X) → FrO v w → Q (Sum.inl none) w) : RW g C S m A 113 0 [some (.ref m), some (.int (iI f)), none] [] v Q := by
  refine qv_R fun hv => ?_
  refine v113_0 ?_
  rcases hX with ⟨q1, q2⟩ | ⟨q1, q2, q3, q4⟩
  · subst q1 q2
    refine v113_2 ⟨fun _ => v113_38 (h v (by rw [List.append_nil]; exact hO) FrO.rfl), fun q => absurd rfl q⟩
  · have key : ∀ (n i : Nat) (u : VS), X.length - i = n → i ≤ X.length → FrO v u → One u (l ++ X.take i) → RW g C S m A 113 2 [some (.ref m), some (.int (iI f)), some (.int (iI i))] [] u Q := by
      intro n
      induction n with
      | zero =>
        intro i u e1 e2 hf hu
        have e5 : u 5 f = v 5 f := by rw [hf 5 (by decide) (by decide)]
        rw [List.take_of_length_le (by omega)] at hu
        exact v113_2 ⟨fun q => by omega, fun _ => ⟨q1, fun _ => v113_38 (h u hu hf), fun q => by omega⟩⟩
      | succ n ih =>
        intro i u e1 e2 hf hu
        have e5 : u 5 f = v 5 f := by rw [hf 5 (by decide) (by decide)]
        have e6 : u 6 (80 * f + i) = X.getD i 0 := by rw [hf 6 (by decide) (by decide)]; exact q3 i (by omega)
        have e7 : X.take (i + 1) = X.take i ++ [X.getD i 0] := by
          rw [List.take_add_one, List.getD_eq_getElem?_getD, List.getElem?_eq_getElem (by omega)]
          rfl
        have e8 : -2147483648 ≤ X.getD i 0 ∧ X.getD i 0 ≤ 2147483647 := by rw [← e6, hf 6 (by decide) (by decide)]; exact hv _ _
        refine v113_2 ⟨fun q => by omega, fun _ => ⟨q1, fun q => by omega, fun _ => ⟨by omega, by omega, by omega, ?_⟩⟩⟩
        rw [e6]
        refine s111 hu (by rw [List.length_append, List.length_take]; omega) e8 (fun w hw hf2 => v113_32 ⟨by omega, ih (i + 1) w (by omega) (by omega) (hf.trans hf2) ?_⟩)
        rw [e7, ← List.append_assoc]
        exact hw
    exact key _ 0 v rfl (Nat.zero_le _) FrO.rfl (by show One v (l ++ []); rw [List.append_nil]; exact hO)
theorem s114 {e most : Int} {X : List Int} (he : 0 ≤ e ∧ e < 24) (hX : v 3 e = X.length ∧ Hd (v 4) (16 * e) X ∧ X.length ≤ 16) (hm : 0 ≤ most ∧ most ≤ 1000) (hO : One v l) (hl : l.length + X.length ≤ 1000) (h : ∀ w, One w (l ++ X.take most.toNat) → FrO v w → Q (Sum.inl none) w) : RW g C S m A 114 0 [some (.ref m), some (.int (iI e)), some (.int (iI most)), none] [] v Q := by
  refine qv_R fun hv => ?_
  refine v114_0 ?_
  obtain ⟨q2, q3, q4⟩ := hX
  have key : ∀ (n i : Nat) (u : VS), min X.length most.toNat - i = n → i ≤ min X.length most.toNat → FrO v u → One u (l ++ X.take i) → RW g C S m A 114 2 [some (.ref m), some (.int (iI e)), some (.int (iI most)), some (.int (iI i))] [] u Q := by
    intro n
    induction n with
    | zero =>
      intro i u e1 e2 hf hu
      have e5 : u 3 e = v 3 e := by rw [hf 3 (by decide) (by decide)]
      have e6 : X.take i = X.take most.toNat := by
        by_cases q : X.length ≤ most.toNat
        · rw [List.take_of_length_le q, List.take_of_length_le (by omega)]
        · rw [show i = most.toNat by omega]
      rw [e6] at hu
      exact v114_2 ⟨he, fun _ => v114_38 (h u hu hf), fun _ => ⟨fun _ => v114_38 (h u hu hf), fun q => by omega⟩⟩
    | succ n ih =>
      intro i u e1 e2 hf hu
      have e5 : u 3 e = v 3 e := by rw [hf 3 (by decide) (by decide)]
      have e6 : u 4 (16 * e + i) = X.getD i 0 := by rw [hf 4 (by decide) (by decide)]; exact q3 i (by omega)
      have e7 : X.take (i + 1) = X.take i ++ [X.getD i 0] := by
        rw [List.take_add_one, List.getD_eq_getElem?_getD, List.getElem?_eq_getElem (by omega)]
        rfl
      have e8 : -2147483648 ≤ X.getD i 0 ∧ X.getD i 0 ≤ 2147483647 := by rw [← e6, hf 4 (by decide) (by decide)]; exact hv _ _
      refine v114_2 ⟨he, fun q => by omega, fun _ => ⟨fun q => by omega, fun _ => ⟨by omega, by omega, by omega, ?_⟩⟩⟩
      rw [e6]
      refine s111 hu (by rw [List.length_append, List.length_take]; omega) e8 (fun w hw hf2 => v114_32 ⟨by omega, ih (i + 1) w (by omega) (by omega) (hf.trans hf2) ?_⟩)
      rw [e7, ← List.append_assoc]
      exact hw
  exact key _ 0 v rfl (Nat.zero_le _) FrO.rfl (by show One v (l ++ []); rw [List.append_nil]; exact hO)
end RPut
