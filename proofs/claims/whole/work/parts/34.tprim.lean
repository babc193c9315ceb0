theorem yT_wT_ne {c : CS} {a b : Nat} {l : List Int} (h : ¬ b = a) : yT (wT c a l) b = yT c b := if_neg h
theorem yE_wE_ne {c : CS} {a b : Nat} {l : List Nat} (h : ¬ b = a) : yE (wE c a l) b = yE c b := if_neg h
theorem yK_wT {c : CS} {a : Nat} {l : List Int} : yK (wT c a l) = yK c := rfl
/-- a part of a text -/
def prt (l : List Int) (f t : Int) : List Int := (l.take t.toNat).drop f.toNat
/-- a number below 100 -/
def nmb (x : Int) : List Int := if x < 10 then [48 + x % 10] else [48 + x / 10, 48 + x % 10]
def cmpL : List Int → List Int → Int
  | [], ys => -(ys.length : Int)
  | x :: xs, [] => ((x :: xs).length : Int)
  | x :: xs, y :: ys => if x = y then cmpL xs ys else x - y
theorem cmpL_nil (l : List Int) : cmpL l [] = (l.length : Int) := by
  cases l with
  | nil => rfl
  | cons x xs => rfl
theorem cmpL_zero : ∀ {l l' : List Int}, cmpL l l' = 0 ↔ l = l'
  | [], [] => ⟨fun _ => rfl, fun _ => rfl⟩
  | [], y :: ys => by
    constructor
    · intro h
      have h : -((ys.length + 1 : Nat) : Int) = 0 := h
      omega
    · intro h; cases h
  | x :: xs, [] => by
    constructor
    · intro h
      have h : ((xs.length + 1 : Nat) : Int) = 0 := h
      omega
    · intro h; cases h
  | x :: xs, y :: ys => by
    show (if x = y then cmpL xs ys else x - y) = 0 ↔ _
    by_cases e : x = y
    · rw [if_pos e, cmpL_zero, e]
      exact ⟨fun h => by rw [h], fun h => (List.cons.inj h).2⟩
    · rw [if_neg e]
      exact ⟨fun h => by omega, fun h => absurd (List.cons.inj h).1 e⟩
section TPrim
variable {g : Nat → Nat} {B : Nat} {O : Nat → Prop} {c : CS} {a b : Nat} {Q : Rs → CS → Prop}
theorem drop_cons {l : List Int} {i : Nat} (h : i < l.length) : l.drop i = l.getD i 0 :: l.drop (i + 1) := by
  rw [List.drop_eq_getElem_cons h, List.getD_eq_getElem?_getD, List.getElem?_eq_getElem h]
  rfl
theorem t59 {j : Nat} (hk : yK c a = 7) (hj : j < 10) (hl : (yT c a).length + (tx j).length ≤ 1024) (h : Q (Sum.inl none) (wT c a (yT c a ++ tx j))) : CW g B O 59 0 [some (.ref a), some (.ref (g (100 + j))), none] [] c Q := by
  refine c59_0 ?_
  have key : ∀ (n i : Nat) (c : CS), (tx j).length - i = n → i ≤ (tx j).length → yK c a = 7 → (yT c a).length + n ≤ 1024 → Q (Sum.inl none) (wT c a (yT c a ++ (tx j).drop i)) → CW g B O 59 2 [some (.ref a), some (.ref (g (100 + j))), some (.int (iI i))] [] c Q := by
    have h64 : ∀ j, j < 10 → (tx j).length ≤ 64 := by decide
    have h64 := h64 j hj
    intro n
    induction n with
    | zero =>
      intro i c e1 e2 hk hl h
      refine c59_2 ⟨hj, fun _ => ?_, fun q => by omega⟩
      rw [List.drop_eq_nil_of_le (by omega), List.append_nil, wT_self] at h
      exact h
    | succ n ih =>
      intro i c e1 e2 hk hl h
      have hz := tx_in (i := i) hj (by omega)
      refine c59_2 ⟨hj, fun q => by omega, fun q => ⟨hj, by omega, hk, by rw [Int.toNat_natCast]; omega, by omega, fun d e => ⟨by omega, ?_⟩⟩⟩
      rw [Int.toNat_natCast] at e
      refine ih (i + 1) d (by omega) (by omega) (by subst e; exact hk) (by subst e; rw [yT_wT, List.length_append]; show _ + 1 + n ≤ _; omega) ?_
      subst e
      rw [yT_wT, wT_wT, List.append_assoc]
      rw [drop_cons (by omega)] at h
      exact h
  exact key _ 0 c rfl (Nat.zero_le _) hk (by omega) h
theorem t61a {L : List Int} {t : Int} {l2 : Option Value} (ht : -2147483648 ≤ t ∧ t ≤ 2147483647) : ∀ (n i : Nat) (c : CS), L.length - i = n → i ≤ L.length → yK c a = 7 → yK c b = 7 → (yT c b).take t.toNat = L → (¬ a = b ∨ t ≤ (yT c b).length) → (yT c a).length + n ≤ 1024 → Q (Sum.inl none) (wT c a (yT c a ++ L.drop i)) → CW g B O 61 7 [some (.ref a), some (.ref b), l2, some (.int (iI t)), some (.int (iI i))] [] c Q := by
  intro n
  induction n with
  | zero =>
    intro i c e1 e2 hk hb hL hab hl h
    refine cq_R fun hR => ?_
    have hbl := (hR.2.1 b hb).1
    have hlen : L.length = min t.toNat (yT c b).length := by rw [← hL, List.length_take]
    rw [List.drop_eq_nil_of_le (by omega), List.append_nil, wT_self] at h
    exact c61_7 ⟨fun _ => c61_39 h, fun q => ⟨hb, fun _ => c61_39 h, fun q2 => by omega⟩⟩
  | succ n ih =>
    intro i c e1 e2 hk hb hL hab hl h
    refine cq_R fun hR => ?_
    have hbl := (hR.2.1 b hb).1
    have hlen : L.length = min t.toNat (yT c b).length := by rw [← hL, List.length_take]
    have hs := (hR.2.1 b hb).2 i
    have e3 : sg (yT c b) i = L.getD i 0 := by
      rw [sg_in (by omega), Int.toNat_natCast, ← hL, List.getD_eq_getElem?_getD, List.getD_eq_getElem?_getD, List.getElem?_take_of_lt (by omega)]
    refine c61_7 ⟨fun q => by omega, fun _ => ⟨hb, fun q => by omega, fun _ => ⟨hb, by omega, hk, by omega, by omega, fun d e => ⟨by omega, ?_⟩⟩⟩⟩
    have hd : (yT d b).take t.toNat = L ∧ (¬ a = b ∨ t ≤ (yT d b).length) := by
      subst e
      by_cases q : a = b
      · subst q
        rw [yT_wT, List.length_append]
        rcases hab with r | r
        · exact absurd rfl r
        · exact ⟨by rw [List.take_append_of_le_length (by omega)]; exact hL, Or.inr (by omega)⟩
      · rw [yT_wT_ne (fun r => q r.symm)]
        exact ⟨hL, Or.inl q⟩
    refine ih (i + 1) d (by omega) (by omega) (by subst e; exact hk) (by subst e; exact hb) hd.1 hd.2 (by subst e; rw [yT_wT, List.length_append]; show _ + 1 + n ≤ _; omega) ?_
    subst e
    rw [yT_wT, wT_wT, List.append_assoc, e3]
    rw [drop_cons (by omega)] at h
    exact h
theorem t61 {f t : Int} (hk : yK c a = 7) (hb : yK c b = 7) (hab : ¬ a = b ∨ t ≤ (yT c b).length) (hf : -2147483648 ≤ f ∧ f ≤ 2147483647) (ht : -2147483648 ≤ t ∧ t ≤ 2147483647) (hl : (yT c a).length + (prt (yT c b) f t).length ≤ 1024) (h : Q (Sum.inl none) (wT c a (yT c a ++ prt (yT c b) f t))) : CW g B O 61 0 [some (.ref a), some (.ref b), some (.int (iI f)), some (.int (iI t)), none] [] c Q := by
  refine cq_R fun hR => ?_
  have hbl := (hR.2.1 b hb).1
  refine c61_0 ?_
  have e : max f 0 = (f.toNat : Int) := by omega
  rw [e]
  by_cases q : f.toNat ≤ ((yT c b).take t.toNat).length
  · unfold prt at hl h
    rw [List.length_drop] at hl
    exact t61a ht _ f.toNat c rfl q hk hb rfl hab (by omega) h
  · have hlen : ((yT c b).take t.toNat).length = min t.toNat (yT c b).length := by rw [List.length_take]
    unfold prt at h
    rw [List.drop_eq_nil_of_le (by omega), List.append_nil, wT_self] at h
    exact c61_7 ⟨fun _ => c61_39 h, fun q => ⟨hb, fun _ => c61_39 h, fun q2 => by omega⟩⟩
theorem t60 (hk : yK c a = 7) (hb : yK c b = 7) (hl : (yT c a).length + (yT c b).length ≤ 1024) (h : Q (Sum.inl none) (wT c a (yT c a ++ yT c b))) : CW g B O 60 0 [some (.ref a), some (.ref b)] [] c Q := by
  refine cq_R fun hR => ?_
  have hbl := (hR.2.1 b hb).1
  have e : prt (yT c b) 0 ((yT c b).length : Int) = yT c b := by
    unfold prt
    rw [Int.toNat_natCast, List.take_of_length_le (Nat.le_refl _)]
    rfl
  refine c60_0 ⟨hb, hk, t61 hk hb (Or.inr (Int.le_refl _)) (by decide) (by omega) (by rw [e]; exact hl) ?_⟩
  rw [e]
  exact c60_10 h
theorem t62 {x : Int} (hk : yK c a = 7) (hx : 0 ≤ x ∧ x ≤ 99) (hl : (yT c a).length + 2 ≤ 1024) (h : Q (Sum.inl none) (wT c a (yT c a ++ nmb x))) : CW g B O 62 0 [some (.ref a), some (.int (iI x))] [] c Q := by
  unfold nmb at h
  refine c62_0 ⟨fun q => c62_17 ⟨by omega, by omega, hk, by omega, by omega, fun d e => ?_⟩, fun q => ⟨by omega, by omega, hk, by omega, by omega, fun d e => c62_17 ⟨by omega, by omega, by subst e; exact hk, by omega, by subst e; rw [yT_wT, List.length_append]; show _ + 1 < _; omega, fun d' e' => ?_⟩⟩⟩
  · rw [if_pos q] at h
    rw [e]
    exact h
  · rw [if_neg (by omega)] at h
    subst e' e
    rw [yT_wT, wT_wT, List.append_assoc]
    exact h
theorem cmpL_R : ∀ {l l' : List Int}, l.length ≤ 2048 → l'.length ≤ 2048 → (∀ i, 0 ≤ sg l i ∧ sg l i ≤ 65535) → (∀ i, 0 ≤ sg l' i ∧ sg l' i ≤ 65535) → -70000 ≤ cmpL l l' ∧ cmpL l l' ≤ 70000
  | [], ys, h1, h2, _, _ => by
    show _ ≤ -(ys.length : Int) ∧ -(ys.length : Int) ≤ _
    omega
  | x :: xs, [], h1, h2, _, _ => by
    show _ ≤ ((x :: xs).length : Int) ∧ ((x :: xs).length : Int) ≤ _
    omega
  | x :: xs, y :: ys, h1, h2, h3, h4 => by
    show _ ≤ (if x = y then cmpL xs ys else x - y) ∧ (if x = y then cmpL xs ys else x - y) ≤ _
    have sg1 : ∀ (z : Int) (l : List Int) (i : Int), 0 ≤ i → sg (z :: l) (i + 1) = sg l i := fun z l i hi => by
      unfold sg
      rw [if_pos (by omega), if_pos hi, show (i + 1).toNat = i.toNat + 1 by omega]
      rfl
    have sgt : ∀ (z : Int) (l : List Int), (∀ i, 0 ≤ sg (z :: l) i ∧ sg (z :: l) i ≤ 65535) → (∀ i, 0 ≤ sg l i ∧ sg l i ≤ 65535) := fun z l h i => by
      by_cases hi : 0 ≤ i
      · have := h (i + 1)
        rw [sg1 z l i hi] at this
        exact this
      · rw [sg_out (Or.inl (by omega))]
        omega
    have h5 : xs.length + 1 ≤ 2048 := h1
    have h6 : ys.length + 1 ≤ 2048 := h2
    split
    · exact cmpL_R (by omega) (by omega) (sgt x xs h3) (sgt y ys h4)
    · have a1 : 0 ≤ x ∧ x ≤ 65535 := h3 0
      have a2 : 0 ≤ y ∧ y ≤ 65535 := h4 0
      omega
theorem crC (h : CR c) (ha : yK c a = 7) (hb : yK c b = 7) : -2147483648 ≤ cmpL (yT c a) (yT c b) ∧ cmpL (yT c a) (yT c b) ≤ 2147483647 := by
  have := cmpL_R (h.2.1 a ha).1 (h.2.1 b hb).1 (h.2.1 a ha).2 (h.2.1 b hb).2
  omega
theorem t64 (hk : yK c a = 7) (hb : yK c b = 7) (h : Q (Sum.inl (some (.int (iI (cmpL (yT c a) (yT c b)))))) c) : CW g B O 64 0 [some (.ref a), some (.ref b), none, none] [] c Q := by
  refine cq_R fun hR => ?_
  have hal := hR.2.1 a hk
  have hbl := hR.2.1 b hb
  refine c64_0 ⟨hk, hb, ?_⟩
  have key : ∀ (n i : Nat), min (yT c a).length (yT c b).length - i = n → i ≤ min (yT c a).length (yT c b).length → Q (Sum.inl (some (.int (iI (cmpL ((yT c a).drop i) ((yT c b).drop i)))))) c → CW g B O 64 14 [some (.ref a), some (.ref b), some (.int (iI (min ((yT c a).length : Int) ((yT c b).length : Int)))), some (.int (iI i))] [] c Q := by
    intro n
    induction n with
    | zero =>
      intro i e1 e2 h
      refine c64_14 ⟨fun _ => ⟨hk, hb, by omega, ?_⟩, fun q => by omega⟩
      have e : cmpL ((yT c a).drop i) ((yT c b).drop i) = ((yT c a).length : Int) - ((yT c b).length : Int) := by
        by_cases q : (yT c a).length ≤ i
        · rw [List.drop_eq_nil_of_le q]
          show -((((yT c b).drop i).length : Nat) : Int) = _
          rw [List.length_drop]
          omega
        · rw [show (yT c b).drop i = [] from List.drop_eq_nil_of_le (by omega), cmpL_nil, List.length_drop]
          omega
      rw [e] at h
      exact h
    | succ n ih =>
      intro i e1 e2 h
      have s1 : sg (yT c a) i = (yT c a).getD i 0 := by rw [sg_in (by omega), Int.toNat_natCast]
      have s2 : sg (yT c b) i = (yT c b).getD i 0 := by rw [sg_in (by omega), Int.toNat_natCast]
      rw [drop_cons (l := yT c a) (by omega), drop_cons (l := yT c b) (by omega)] at h
      have h : Q (Sum.inl (some (.int (iI (if (yT c a).getD i 0 = (yT c b).getD i 0 then cmpL ((yT c a).drop (i + 1)) ((yT c b).drop (i + 1)) else (yT c a).getD i 0 - (yT c b).getD i 0))))) c := h
      have b1 := hal.2 i
      have b2 := hbl.2 i
      refine c64_14 ⟨fun q => by omega, fun _ => ⟨hk, by omega, hb, by omega, fun q => ⟨by omega, ?_⟩, fun q => ⟨hk, by omega, hb, by omega, by omega, ?_⟩⟩⟩
      · rw [s1, s2] at q
        rw [if_pos q] at h
        exact ih (i + 1) (by omega) (by omega) h
      · rw [s1, s2] at q ⊢
        rw [if_neg q] at h
        exact h
  exact key _ 0 rfl (Nat.zero_le _) h
theorem t65 (hk : yK c a = 7) (hb : yK c b = 7) (h1 : yT c a = yT c b → Q (Sum.inl (some (.int (iI 1)))) c) (h2 : ¬ yT c a = yT c b → Q (Sum.inl (some (.int (iI 0)))) c) : CW g B O 65 0 [some (.ref a), some (.ref b)] [] c Q := by
  refine cq_R fun hR => ?_
  have hc := crC hR hk hb
  refine c65_0 ⟨hk, hb, fun q => c65_23 (c65_24 ⟨Or.inl rfl, h2 (fun e => q (by rw [e]))⟩), fun _ => ⟨hk, t64 hk hb ?_⟩⟩
  refine c65_16 ⟨fun q => c65_23 (c65_24 ⟨Or.inl rfl, h2 (fun e => q (cmpL_zero.mpr e))⟩), fun q => c65_24 ⟨Or.inr rfl, h1 (cmpL_zero.mp q)⟩⟩
end TPrim
