/-! the texts of a sort compare as the reference orders -/
def sq (a b : Int) : Prop := (0 < a ↔ 0 < b) ∧ (a < 0 ↔ b < 0)
theorem sq_rfl {a : Int} : sq a a := ⟨Iff.rfl, Iff.rfl⟩
theorem sq_tr {a b c : Int} (h : sq a b) (h' : sq b c) : sq a c := ⟨h.1.trans h'.1, h.2.trans h'.2⟩
theorem sq_thn {a a' b b' : Int} (h : sq a a') (h' : sq b b') : sq (thn a b) (thn a' b') := by
  obtain ⟨h1, h2⟩ := h
  unfold thn
  by_cases q : a = 0
  · rw [if_pos q, if_pos (by omega)]
    exact h'
  · rw [if_neg q, if_neg (by omega)]
    exact ⟨h1, h2⟩
theorem thn_assoc (a b c : Int) : thn (thn a b) c = thn a (thn b c) := by
  unfold thn
  by_cases q : a = 0
  · rw [if_pos q, if_pos q]
  · rw [if_neg q, if_neg q, if_neg q]
theorem cmp_sep {k : Int} {X Y : List Int} : ∀ {A B : List Int}, (∀ x, x ∈ A → k < x) → (∀ x, x ∈ B → k < x) → sq (cmpL (A ++ k :: X) (B ++ k :: Y)) (thn (cmpL A B) (cmpL X Y))
  | [], [], _, _ => by
    have h1 : cmpL ([] ++ k :: X) ([] ++ k :: Y) = cmpL X Y := if_pos rfl
    have h2 : cmpL [] [] = 0 := rfl
    rw [h1, h2]
    unfold thn
    rw [if_pos rfl]
    exact sq_rfl
  | [], b :: B, _, hB => by
    have hb := hB b List.mem_cons_self
    have h1 : cmpL ([] ++ k :: X) (b :: B ++ k :: Y) = k - b := if_neg (by omega)
    have h2 : cmpL [] (b :: B) = -((B.length : Int) + 1) := by
      show -(((b :: B).length : Nat) : Int) = _
      rw [List.length_cons]; omega
    rw [h1, h2]
    unfold thn
    rw [if_neg (by omega)]
    unfold sq
    omega
  | a :: A, [], hA, _ => by
    have ha := hA a List.mem_cons_self
    have h1 : cmpL (a :: A ++ k :: X) ([] ++ k :: Y) = a - k := if_neg (by omega)
    have h2 : cmpL (a :: A) [] = ((A.length : Int) + 1) := by
      show (((a :: A).length : Nat) : Int) = _
      rw [List.length_cons]; omega
    rw [h1, h2]
    unfold thn
    rw [if_neg (by omega)]
    unfold sq
    omega
  | a :: A, b :: B, hA, hB => by
    by_cases q : a = b
    · have h1 : cmpL (a :: A ++ k :: X) (b :: B ++ k :: Y) = cmpL (A ++ k :: X) (B ++ k :: Y) := if_pos q
      have h2 : cmpL (a :: A) (b :: B) = cmpL A B := if_pos q
      rw [h1, h2]
      exact cmp_sep (fun x hx => hA x (List.mem_cons_of_mem _ hx)) (fun x hx => hB x (List.mem_cons_of_mem _ hx))
    · have h1 : cmpL (a :: A ++ k :: X) (b :: B ++ k :: Y) = a - b := if_neg q
      have h2 : cmpL (a :: A) (b :: B) = a - b := if_neg q
      rw [h1, h2]
      unfold thn
      rw [if_neg (by omega)]
      exact sq_rfl
def blk (t : List Int) (p : Nat) : List Int := jn (fa t p) ++ [1] ++ jn (gv t p) ++ [1] ++ jn (pa t p) ++ [1]
def odq (t : List Int) : Nat → Nat → List Int
  | 0, _ => []
  | n + 1, p => blk t p ++ odq t n (p + 1)
theorem odq_snoc (t : List Int) : ∀ n p, odq t (n + 1) p = odq t n p ++ blk t (p + n)
  | 0, p => by
    show blk t p ++ [] = [] ++ blk t p
    rw [List.append_nil, List.nil_append]
  | n + 1, p => by
    show blk t p ++ odq t (n + 1) (p + 1) = (blk t p ++ odq t n (p + 1)) ++ blk t (p + (n + 1))
    rw [odq_snoc t n (p + 1), List.append_assoc, show p + 1 + n = p + (n + 1) by omega]
theorem odp_q (t : List Int) : ∀ n, odp t n = odq t n 0
  | 0 => rfl
  | n + 1 => by
    rw [odq_snoc, ← odp_q t n, Nat.zero_add]
    rfl
theorem fo01 : fo 0 = 0 ∧ fo 1 = 1 := by decide
theorem blk_fo (t : List Int) (p : Nat) (W : List Int) : (blk t p).map fo ++ W = fj (fa t p) ++ 1 :: (fj (gv t p) ++ 1 :: (fj (pa t p) ++ 1 :: W)) := by
  unfold blk fj
  simp only [List.map_append, List.map_cons, List.map_nil, fo01.2, List.append_assoc, List.cons_append, List.nil_append]
theorem fj_big {t : List Int} {ws : List (List Int)} (hk : wdK t ws) (ht : ∀ x, x ∈ t → okc x) : ∀ x, x ∈ fj ws → 1 < x := fun x hx => by
  obtain ⟨y, hy, e⟩ := List.mem_map.mp hx
  have := fo_ok (hk.ok ht y hy)
  omega
theorem cmp0_lt {A W X : List Int} (hA : ∀ x, x ∈ A → 1 < x) : cmpL (0 :: X) (A ++ 1 :: W) < 0 ∧ 0 < cmpL (A ++ 1 :: W) (0 :: X) := by
  cases A with
  | nil =>
    have h1 : cmpL (0 :: X) ([] ++ 1 :: W) = 0 - 1 := if_neg (by decide)
    have h2 : cmpL ([] ++ 1 :: W) (0 :: X) = 1 - 0 := if_neg (by decide)
    rw [h1, h2]
    decide
  | cons a A =>
    have ha := hA a List.mem_cons_self
    have h1 : cmpL (0 :: X) (a :: A ++ 1 :: W) = 0 - a := if_neg (by omega)
    have h2 : cmpL (a :: A ++ 1 :: W) (0 :: X) = a - 0 := if_neg (by omega)
    rw [h1, h2]
    omega
theorem ops_tie {t t' X Y : List Int} (ht : ∀ x, x ∈ t → okc x) (ht' : ∀ x, x ∈ t' → okc x) : ∀ (n p a b : Nat), np t = p + a → np t' = p + b → a ≤ n → b ≤ n → sq (cmpL ((odq t a p).map fo ++ 0 :: X) ((odq t' b p).map fo ++ 0 :: Y)) (thn (ops t t' n p) (cmpL X Y))
  | n, p, 0, 0, ha, hb, _, _ => by
    have h1 : cmpL ((odq t 0 p).map fo ++ 0 :: X) ((odq t' 0 p).map fo ++ 0 :: Y) = cmpL X Y := if_pos rfl
    have h2 : ops t t' n p = 0 := by
      cases n with
      | zero => show (np t : Int) - np t' = 0; omega
      | succ n =>
        show (if np t ≤ p ∨ np t' ≤ p then (np t : Int) - np t' else _) = 0
        rw [if_pos (by omega)]
        omega
    rw [h1, h2]
    unfold thn
    rw [if_pos rfl]
    exact sq_rfl
  | 0, p, a + 1, b, ha, hb, h1, _ => absurd h1 (by omega)
  | 0, p, a, b + 1, ha, hb, _, h1 => absurd h1 (by omega)
  | n + 1, p, 0, b + 1, ha, hb, _, _ => by
    have h2 : ops t t' (n + 1) p = (np t : Int) - np t' := if_pos (by omega)
    rw [h2]
    have h1 : (odq t' (b + 1) p).map fo ++ 0 :: Y = fj (fa t' p) ++ 1 :: (fj (gv t' p) ++ 1 :: (fj (pa t' p) ++ 1 :: ((odq t' b (p + 1)).map fo ++ 0 :: Y))) := by
      show (blk t' p ++ odq t' b (p + 1)).map fo ++ _ = _
      rw [List.map_append, List.append_assoc, blk_fo]
    rw [h1]
    have h3 := (cmp0_lt (A := fj (fa t' p)) (W := fj (gv t' p) ++ 1 :: (fj (pa t' p) ++ 1 :: ((odq t' b (p + 1)).map fo ++ 0 :: Y))) (X := X) (fj_big (fa_K t' p) ht')).1
    have h4 : (odq t 0 p).map fo ++ 0 :: X = 0 :: X := rfl
    rw [h4]
    unfold thn
    rw [if_neg (by omega)]
    unfold sq
    omega
  | n + 1, p, a + 1, 0, ha, hb, _, _ => by
    have h2 : ops t t' (n + 1) p = (np t : Int) - np t' := if_pos (by omega)
    rw [h2]
    have h1 : (odq t (a + 1) p).map fo ++ 0 :: X = fj (fa t p) ++ 1 :: (fj (gv t p) ++ 1 :: (fj (pa t p) ++ 1 :: ((odq t a (p + 1)).map fo ++ 0 :: X))) := by
      show (blk t p ++ odq t a (p + 1)).map fo ++ _ = _
      rw [List.map_append, List.append_assoc, blk_fo]
    rw [h1]
    have h3 := (cmp0_lt (A := fj (fa t p)) (W := fj (gv t p) ++ 1 :: (fj (pa t p) ++ 1 :: ((odq t a (p + 1)).map fo ++ 0 :: X))) (X := Y) (fj_big (fa_K t p) ht)).2
    have h4 : (odq t' 0 p).map fo ++ 0 :: Y = 0 :: Y := rfl
    rw [h4]
    unfold thn
    rw [if_neg (by omega)]
    unfold sq
    omega
  | n + 1, p, a + 1, b + 1, ha, hb, h1, h1' => by
    have h2 : ops t t' (n + 1) p = thn (opk t t' p) (ops t t' n (p + 1)) := if_neg (by omega)
    have e1 : (odq t (a + 1) p).map fo ++ 0 :: X = fj (fa t p) ++ 1 :: (fj (gv t p) ++ 1 :: (fj (pa t p) ++ 1 :: ((odq t a (p + 1)).map fo ++ 0 :: X))) := by
      show (blk t p ++ odq t a (p + 1)).map fo ++ _ = _
      rw [List.map_append, List.append_assoc, blk_fo]
    have e2 : (odq t' (b + 1) p).map fo ++ 0 :: Y = fj (fa t' p) ++ 1 :: (fj (gv t' p) ++ 1 :: (fj (pa t' p) ++ 1 :: ((odq t' b (p + 1)).map fo ++ 0 :: Y))) := by
      show (blk t' p ++ odq t' b (p + 1)).map fo ++ _ = _
      rw [List.map_append, List.append_assoc, blk_fo]
    rw [h2, e1, e2]
    unfold opk
    rw [thn_assoc, thn_assoc, thn_assoc]
    refine sq_tr (cmp_sep (fj_big (fa_K t p) ht) (fj_big (fa_K t' p) ht')) (sq_thn sq_rfl ?_)
    refine sq_tr (cmp_sep (fj_big (gv_K t p) ht) (fj_big (gv_K t' p) ht')) (sq_thn sq_rfl ?_)
    refine sq_tr (cmp_sep (fj_big (pa_K t p) ht) (fj_big (pa_K t' p) ht')) (sq_thn sq_rfl ?_)
    exact ops_tie ht ht' n (p + 1) a b (by omega) (by omega) (by omega) (by omega)
theorem ordT_q (t : List Int) : ordT t = odq t (np t) 0 ++ [0] := by
  unfold ordT
  rw [odp_q]
theorem fo_big {l : List Int} (h : ∀ x, x ∈ l → okc x) : ∀ x, x ∈ l.map fo → 0 < x := fun x hx => by
  obtain ⟨y, hy, e⟩ := List.mem_map.mp hx
  have := fo_ok (h y hy)
  omega
/-- the order of the texts is the reference's order -/
theorem ord_tie {D : Db} (hD : DOK D) {s : Int} (hs : 0 ≤ s ∧ s ≤ 2) (h0 : ¬ s = 0) (x y : Nat) : 0 < cmpL (odT D s x) (odT D s y) ↔ 0 < ord D s x y := by
  have hx := val_ok hD x 0
  have hy := val_ok hD y 0
  have nx := np40 hx.1
  have ny := np40 hy.1
  have bx := fo_big (val_ok hD x 2).2
  have by' := fo_big (val_ok hD y 2).2
  have tie := fun X Y => ops_tie (X := X) (Y := Y) hx.2 hy.2 41 0 (np (val D x 0)) (np (val D y 0)) (by omega) (by omega) (by omega) (by omega)
  by_cases q : s = 2
  · have e : ∀ z, odT D s z = (val D z 2).map fo ++ 0 :: ((odq (val D z 0) (np (val D z 0)) 0).map fo ++ 0 :: (val D z 1).map fo) := fun z => by
      unfold odT
      rw [if_pos q, ordT_q]
      simp only [List.map_append, List.map_cons, List.map_nil, fo01.1, List.append_assoc, List.cons_append, List.nil_append]
    have eo : ord D s x y = thn (cfl D 2 x y) (thn (opp (val D x 0) (val D y 0)) (cfl D 1 x y)) := by
      unfold ord
      rw [if_neg (by omega), thn_assoc]
    rw [e x, e y, eo]
    exact (sq_tr (cmp_sep bx by') (sq_thn sq_rfl (tie _ _))).1
  · have e : ∀ z, odT D s z = (odq (val D z 0) (np (val D z 0)) 0).map fo ++ 0 :: ((val D z 2).map fo ++ 0 :: (val D z 1).map fo) := fun z => by
      unfold odT
      rw [if_neg q, ordT_q]
      simp only [List.map_append, List.map_cons, List.map_nil, fo01.1, List.append_assoc, List.cons_append, List.nil_append]
    have eo : ord D s x y = thn (opp (val D x 0) (val D y 0)) (thn (cfl D 2 x y) (cfl D 1 x y)) := by
      unfold ord
      rw [if_pos (by omega), thn_assoc]
    rw [e x, e y, eo]
    exact (sq_tr (tie _ _) (sq_thn sq_rfl (cmp_sep bx by'))).1
/-! what was cited -/
theorem lst1_fst {D : Db} : ∀ (C : List Nat), lst1 D C = lst1 D (C.foldl addN []) := by
  intro C
  have key : ∀ (n : Nat) (C : List Nat), C.length = n → lst1 D C = lst1 D (C.foldl addN []) ∧ (∀ x, x ∈ C.foldl addN [] ↔ x ∈ C) := by
    intro n
    induction n with
    | zero =>
      intro C h
      cases C with
      | nil => exact ⟨rfl, fun x => Iff.rfl⟩
      | cons a b => cases h
    | succ n ih =>
      intro C h
      obtain ⟨C', e, rfl⟩ : ∃ C' e, C = C' ++ [e] := ⟨C.dropLast, C.getLast (fun q => by rw [q] at h; cases h), (List.dropLast_concat_getLast _).symm⟩
      have hl : C'.length = n := by rw [List.length_append] at h; have h : C'.length + 1 = n + 1 := h; omega
      obtain ⟨i1, i2⟩ := ih C' hl
      have hf : (C' ++ [e]).foldl addN [] = addN (C'.foldl addN []) e := by rw [List.foldl_append]; rfl
      rw [hf, lst1_snoc, i1]
      refine ⟨?_, fun x => ?_⟩
      · generalize C'.foldl addN [] = F at i2 ⊢
        by_cases q : e ∈ F
        · rw [show addN F e = F from if_pos q]
          have hin : real D e ∈ lst1 D F := by
            have : ∀ (F L : List Nat), (e ∈ F ∨ real D e ∈ L) → real D e ∈ F.foldl (fun L e => addN L (real D e)) L := by
              intro F
              induction F with
              | nil => intro L h; exact h.resolve_left (fun q => by cases q)
              | cons a F ihF =>
                intro L h
                refine ihF _ ?_
                rcases h with h | h
                · rcases List.mem_cons.mp h with h | h
                  · exact Or.inr (addN_mem.mpr (Or.inr (by rw [h])))
                  · exact Or.inl h
                · exact Or.inr (addN_mem.mpr (Or.inl h))
            exact this F [] (Or.inl q)
          exact if_pos hin
        · rw [show addN F e = F ++ [e] from if_neg q, lst1_snoc]
      · rw [addN_mem, i2, List.mem_append, List.mem_singleton]
  exact (key _ C rfl).1
