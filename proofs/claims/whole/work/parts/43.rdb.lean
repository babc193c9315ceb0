/-! THE DATA: how many entries, kinds, keys, fields, to which one each is crossed -/
abbrev Db : Type := Nat × (Nat → Int) × (Nat → List Int) × (Nat → Nat → List Int) × (Nat → Option Nat)
def dN (D : Db) : Nat := D.1
def dK (D : Db) : Nat → Int := D.2.1
def dY (D : Db) : Nat → List Int := D.2.2.1
def dF (D : Db) : Nat → Nat → List Int := D.2.2.2.1
def dX (D : Db) : Nat → Option Nat := D.2.2.2.2
/-- crossing ends after at most n steps -/
def en (C : Nat → Option Nat) : Nat → Nat → Prop
  | 0, _ => False
  | n + 1, e => match C e with | none => True | some o => en C n o
def DOK (D : Db) : Prop := dN D ≤ 24 ∧ (∀ e, e < dN D → 0 ≤ dK D e ∧ dK D e ≤ 4) ∧ (∀ e, (dY D e).length ≤ 16 ∧ ∀ x, x ∈ dY D e → okc x) ∧ (∀ e f, (dF D e f).length ≤ 80 ∧ ∀ x, x ∈ dF D e f → okc x) ∧
  (∀ e, dN D ≤ e → dY D e = [] ∧ (∀ f, dF D e f = []) ∧ dX D e = none) ∧ (∀ e o, dX D e = some o → o < dN D) ∧ (∀ e, en (dX D) 24 e)
/-- the value of a field -/
def vl (D : Db) : Nat → Nat → Nat → List Int
  | 0, _, _ => []
  | n + 1, e, f => if ¬ dF D e f = [] then dF D e f else match dX D e with
    | none => []
    | some o => if f = 1 then [] else if f = 6 ∧ ¬ dF D o 1 = [] then dF D o 1 else vl D n o f
def val (D : Db) (e f : Nat) : List Int := vl D 24 e f
theorem vl_mono (D : Db) (f : Nat) : ∀ (n n' e : Nat), en (dX D) n e → n ≤ n' → vl D n e f = vl D n' e f
  | 0, _, _, h, _ => h.elim
  | n + 1, 0, _, _, h => by omega
  | n + 1, n' + 1, e, h, hn => by
    unfold vl
    unfold en at h
    cases hc : dX D e with
    | none => rfl
    | some o =>
      rw [hc] at h
      dsimp only
      rw [vl_mono D f n n' o h (by omega)]
theorem vl_ok {D : Db} (hD : DOK D) (f : Nat) : ∀ (n e : Nat), (vl D n e f).length ≤ 80 ∧ ∀ x, x ∈ vl D n e f → okc x
  | 0, _ => ⟨Nat.zero_le _, fun x hx => by cases hx⟩
  | n + 1, e => by
    unfold vl
    split
    · exact hD.2.2.2.1 e f
    · split
      · exact ⟨Nat.zero_le _, fun x hx => by cases hx⟩
      · split
        · exact ⟨Nat.zero_le _, fun x hx => by cases hx⟩
        · split
          · exact hD.2.2.2.1 _ 1
          · exact vl_ok hD f n _
theorem val_ok {D : Db} (hD : DOK D) (e f : Nat) : (val D e f).length ≤ 80 ∧ ∀ x, x ∈ val D e f → okc x := vl_ok hD f 24 e
/-- the first entry with the same key -/
def rls (D : Db) (e : Nat) : Nat → Nat → Nat
  | 0, _ => e
  | n + 1, k => if dY D k = dY D e then k else rls D e n (k + 1)
def real (D : Db) (e : Nat) : Nat := if dY D e = [] then e else rls D e e 0
theorem rls_le (D : Db) (e : Nat) : ∀ n k, k + n ≤ e → rls D e n k ≤ e
  | 0, _, _ => Nat.le_refl _
  | n + 1, k, h => by
    unfold rls
    split
    · omega
    · exact rls_le D e n (k + 1) (by omega)
theorem real_le (D : Db) (e : Nat) : real D e ≤ e := by
  unfold real
  split
  · exact Nat.le_refl _
  · exact rls_le D e e 0 (by omega)
def cro (o : Option Nat) : Int := match o with | none => -1 | some x => x
/-- the reference holds the data -/
def RDb (v : VS) (D : Db) : Prop := v 1 0 = dN D ∧ (∀ e : Nat, e < dN D → v 2 e = dK D e ∧ v 7 e = cro (dX D e)) ∧ (∀ e : Nat, e < 24 → v 3 e = (dY D e).length ∧ Hd (v 4) (16 * (e : Int)) (dY D e) ∧ ∀ f : Nat, f < 8 → v 5 (8 * (e : Int) + f) = (dF D e f).length ∧ Hd (v 6) (80 * (8 * (e : Int) + f)) (dF D e f))
theorem RDb.fr {v w : VS} {D : Db} (h : RDb v D) (hf : ∀ j, 1 ≤ j → j < 8 → w j = v j) : RDb w D := by
  obtain ⟨h1, h2, h3⟩ := h
  refine ⟨by rw [hf 1 (by omega) (by omega)]; exact h1, fun e he => ?_, fun e he => ?_⟩
  · rw [hf 2 (by omega) (by omega), hf 7 (by omega) (by omega)]
    exact h2 e he
  · rw [hf 3 (by omega) (by omega), hf 4 (by omega) (by omega), hf 5 (by omega) (by omega), hf 6 (by omega) (by omega)]
    exact h3 e he
/-- a field of the reference holds a text; -1: no field -/
def Fld (v : VS) (r : Int) (X : List Int) : Prop := (r = -1 ∧ X = []) ∨ ((0 ≤ r ∧ r < 192) ∧ v 5 r = X.length ∧ Hd (v 6) (80 * r) X ∧ X.length ≤ 80 ∧ ¬ X = [])
theorem Fld.fr {v w : VS} {r : Int} {X : List Int} (h : Fld v r X) (hf : ∀ j, 1 ≤ j → j < 8 → w j = v j) : Fld w r X := by
  unfold Fld
  rw [hf 5 (by omega) (by omega), hf 6 (by omega) (by omega)]
  exact h
theorem Fld.s {v : VS} {r : Int} {X : List Int} (h : Fld v r X) : (r = -1 ∧ X = []) ∨ ((0 ≤ r ∧ r < 192) ∧ v 5 r = X.length ∧ Hd (v 6) (80 * r) X ∧ X.length ≤ 80) := h.imp id (fun q => ⟨q.1, q.2.1, q.2.2.1, q.2.2.2.1⟩)
section RDbS
variable {g : Nat → Nat} {C S m : Nat} {A : Nat → Nat} {v : VS} {Q : Rs → VS → Prop} {D : Db}
theorem s103a {f e0 : Nat} (hD : DOK D) (hv : RDb v D) (hf : f < 8) (hQ : ∀ r X, Fld v r X → X = val D e0 f → Q (Sum.inl (some (.int (iI r)))) v) : ∀ (n e : Nat) {l1 : Option Value}, e < dN D → en (dX D) n e → vl D n e f = val D e0 f → RW g C S m A 103 2 [some (.ref m), l1, some (.int (iI f)), some (.int (iI e))] [] v Q := by
  obtain ⟨d1, d2, d3, d4, d5, d6, d7⟩ := hD
  obtain ⟨v1, v2, v3⟩ := hv
  intro n
  induction n with
  | zero => intro e l1 he h; exact h.elim
  | succ n ih =>
    intro e l1 he h hval
    obtain ⟨-, v7⟩ := v2 e he
    obtain ⟨-, -, v5⟩ := v3 e (by omega)
    obtain ⟨v5a, v6a⟩ := v5 f hf
    have hlen := (d4 e f).1
    unfold vl at hval
    unfold en at h
    refine v103_2 ⟨by omega, by omega, by omega, fun q => ⟨by omega, by omega, hQ _ (dF D e f) (Or.inr ⟨by omega, v5a, v6a, hlen, ?_⟩) ?_⟩, fun q => ⟨by omega, fun q1 => v103_31 (hQ (-1) [] (Or.inl ⟨rfl, rfl⟩) ?_), fun q1 => ?_⟩⟩
    · intro s; rw [v5a, s] at q; exact q rfl
    · rw [if_pos (fun s => q (by rw [v5a, s]; rfl))] at hval
      exact hval
    · have s : dF D e f = [] := List.eq_nil_of_length_eq_zero (by omega)
      rw [if_neg (fun t => t s)] at hval
      rw [v7] at q1
      cases hc : dX D e with
      | none => rw [hc] at hval; exact hval
      | some o => rw [hc] at q1; have : (o : Int) = -1 := q1; omega
    · have s : dF D e f = [] := List.eq_nil_of_length_eq_zero (by omega)
      rw [if_neg (fun t => t s)] at hval
      rw [v7] at q1 ⊢
      cases hc : dX D e with
      | none => rw [hc] at q1; exact absurd rfl q1
      | some o =>
        rw [hc] at hval h q1
        have h : en (dX D) n o := h
        have ho := d6 e o hc
        obtain ⟨-, -, u5⟩ := v3 o (by omega)
        obtain ⟨u5a, u6a⟩ := u5 1 (by decide)
        have hlen1 := (d4 o 1).1
        show (¬ (f : Int) = 1 → _) ∧ _
        have ec : cro (some o) = (o : Int) := rfl
        rw [ec]
        dsimp only at hval
        refine ⟨fun q2 => ?_, fun q2 => v103_31 (hQ (-1) [] (Or.inl ⟨rfl, rfl⟩) ?_)⟩
        · rw [if_neg (by omega)] at hval
          refine ⟨by omega, fun q3 => ?_, fun q3 => ⟨by omega, by omega, by omega, fun q4 => ?_, fun q4 => ⟨by omega, by omega, hQ _ (dF D o 1) (Or.inr ⟨by omega, u5a, u6a, hlen1, ?_⟩) ?_⟩⟩⟩
          · rw [if_neg (fun t => q3 (by omega))] at hval
            exact ih o ho h hval
          · have u5a : v 5 (8 * (o : Int) + 1) = _ := u5a
            rw [if_neg (fun t => t.2 (List.eq_nil_of_length_eq_zero (by omega)))] at hval
            exact ih o ho h hval
          · intro t
            have u5a : v 5 (8 * (o : Int) + 1) = _ := u5a
            rw [t] at u5a
            rw [u5a] at q4
            exact absurd q4 (by decide)
          · have u5a : v 5 (8 * (o : Int) + 1) = _ := u5a
            rw [if_pos ⟨by omega, fun t => by rw [t] at u5a; rw [u5a] at q4; exact absurd q4 (by decide)⟩] at hval
            exact hval
        · rw [if_pos (by omega)] at hval
          exact hval
theorem s103 {e f : Nat} (hD : DOK D) (hv : RDb v D) (he : e < dN D) (hf : f < 8) (hQ : ∀ r, Fld v r (val D e f) → Q (Sum.inl (some (.int (iI r)))) v) : RW g C S m A 103 0 [some (.ref m), some (.int (iI e)), some (.int (iI f)), none] [] v Q := by
  have := hD.1
  exact v103_0 (s103a hD hv hf (fun r X h1 h2 => hQ r (h2 ▸ h1)) 24 e he (hD.2.2.2.2.2.2 e) rfl)
theorem s104 {e : Nat} (hD : DOK D) (hv : RDb v D) (he : e < dN D) (h : Q (Sum.inl (some (.int (iI (real D e))))) v) : RW g C S m A 104 0 [some (.ref m), some (.int (iI e)), none, none, none] [] v Q := by
  obtain ⟨d1, d2, d3, d4, d5, d6, d7⟩ := hD
  obtain ⟨v1, v2, v3⟩ := hv
  obtain ⟨w3, w4, -⟩ := v3 e (by omega)
  have hl := (d3 e).1
  refine v104_0 ?_
  have key : ∀ (n k : Nat) {l3 l4 : Option Value}, e - k = n → k ≤ e → Q (Sum.inl (some (.int (iI ((if dY D e = [] then e else rls D e n k : Nat) : Int))))) v → RW g C S m A 104 2 [some (.ref m), some (.int (iI e)), some (.int (iI k)), l3, l4] [] v Q := by
    intro n
    induction n with
    | zero =>
      intro k l3 l4 e1 e2 h
      have : (if dY D e = [] then e else rls D e 0 k) = e := by split <;> rfl
      rw [this] at h
      exact v104_2 ⟨fun _ => v104_106 h, fun q => by omega⟩
    | succ n ih =>
      intro k l3 l4 e1 e2 h
      obtain ⟨u3, u4, -⟩ := v3 k (by omega)
      have hlk := (d3 k).1
      refine v104_2 ⟨fun q => by omega, fun _ => ⟨by omega, fun q => v104_106 ?_, fun q => ?_⟩⟩
      · rw [if_pos (List.eq_nil_of_length_eq_zero (by omega))] at h
        exact h
      · have hne : ¬ dY D e = [] := fun s => by rw [w3, s] at q; exact absurd q (by decide)
        rw [if_neg hne] at h
        unfold rls at h
        -- the inner loop
        have inner : ∀ (n' i : Nat) (x3 : Int), (dY D e).length - i = n' → i ≤ (dY D e).length → (x3 = 0 ∨ x3 = 1) → (x3 = 1 → (dY D k).length = (dY D e).length ∧ ∀ j, j < i → (dY D k).getD j 0 = (dY D e).getD j 0) → (x3 = 0 → ¬ dY D k = dY D e) → RW g C S m A 104 40 [some (.ref m), some (.int (iI e)), some (.int (iI k)), some (.int (iI x3)), some (.int (iI i))] [] v Q := by
          intro n'
          have no : ¬ dY D k = dY D e → ∀ {l4 : Option Value}, RW g C S m A 104 94 [some (.ref m), some (.int (iI e)), some (.int (iI k)), some (.int (iI 0)), l4] [] v Q := fun hn l4 => by
            refine v104_94 ⟨fun _ => ⟨by omega, ?_⟩, fun q => absurd rfl q⟩
            rw [if_neg hn] at h
            refine ih (k + 1) (by omega) (by omega) ?_
            rw [if_neg hne]
            exact h
          induction n' with
          | zero =>
            intro i x3 i1 i2 i3 i4 i5
            refine v104_40 ⟨by omega, fun _ => ?_, fun q => by omega⟩
            rcases i3 with r | r
            · subst r
              exact no (i5 rfl)
            · have hs := i4 r
              have heq : dY D k = dY D e := ext_getD hs.1 (fun j hj => hs.2 j (by omega))
              rw [if_pos heq] at h
              subst r
              exact v104_94 ⟨fun q => by omega, fun _ => h⟩
          | succ n' ih' =>
            intro i x3 i1 i2 i3 i4 i5
            rcases i3 with r | r
            · subst r
              exact v104_40 ⟨by omega, fun q => by omega, fun _ => ⟨fun _ => no (i5 rfl), fun q => absurd rfl q⟩⟩
            · subst r
              obtain ⟨hs1, hs2⟩ := i4 rfl
              have a1 := u4 i (by omega)
              have a2 := w4 i (by omega)
              refine v104_40 ⟨by omega, fun q => by omega, fun _ => ⟨fun q => by omega, fun _ => ⟨by omega, by omega, by omega, by omega, by omega, by omega, fun q => v104_87 ⟨by omega, ?_⟩, fun q => v104_87 ⟨by omega, ?_⟩⟩⟩⟩
              · refine ih' (i + 1) 0 (by omega) (by omega) (Or.inl rfl) (fun s => by omega) (fun _ s => ?_)
                rw [a1, a2, s] at q
                exact q rfl
              · refine ih' (i + 1) 1 (by omega) (by omega) (Or.inr rfl) (fun _ => ⟨hs1, fun j hj => ?_⟩) (fun s => by omega)
                by_cases s : j = i
                · rw [s, ← a1, ← a2]; exact q
                · exact hs2 j (by omega)
        refine ⟨by omega, by omega, fun q => v104_36 ?_, fun q => v104_36 ?_⟩
        · exact inner _ 0 0 rfl (Nat.zero_le _) (Or.inl rfl) (fun s => by omega) (fun _ s => q (by rw [u3, w3, s]))
        · exact inner _ 0 1 rfl (Nat.zero_le _) (Or.inr rfl) (fun _ => ⟨by omega, fun j hj => absurd hj (Nat.not_lt_zero _)⟩) (fun s => by omega)
  refine key e 0 (by omega) (Nat.zero_le _) ?_
  unfold real at h
  by_cases hne : dY D e = []
  · rw [if_pos hne] at h ⊢
    exact h
  · rw [if_neg hne] at h ⊢
    exact h
end RDbS
