/-! ROWS -/
theorem tx_s : tx 3 = [46, 32] ∧ tx 4 = [32] ∧ tx 6 = [] ∧ tx 5 = [44, 32] := by decide
def jT (j : Nat) : Prop := j = 2 ∨ j = 3 ∨ j = 4 ∨ j = 5 ∨ j = 7
def RoI (c : CS) (ℓ : LB) (r : Nat) : Prop := (yK c r = 6 ∧ ℓ r = (r, 0)) ∧ (∃ p, yP c r 1 = some p ∧ ℓ p = (r, 1) ∧ PsI c ℓ p) ∧ ∀ j : Nat, jT j → ∃ a, yP c r j = some a ∧ yK c a = 7 ∧ ℓ a = (r, j)
/-- what a row owns -/
def OR (ℓ : LB) (r a : Nat) : Prop := (ℓ a).1 = r ∨ (ℓ (ℓ a).1).1 = r
theorem RoI.keep {c d : CS} {ℓ ℓ' : LB} {r : Nat} (h : RoI c ℓ r) (hl : ∀ a, ¬ yK c a = 0 → ℓ' a = ℓ a ∧ yK d a = yK c a) (hk : ∀ a, ¬ yK c a = 0 → OR ℓ r a → Kp c d a) : RoI d ℓ' r := by
  obtain ⟨⟨a1, a2⟩, ⟨p, b1, b2, b3⟩, h3⟩ := h
  have kr := hk r (by omega) (Or.inl (by rw [a2]))
  have pK := b3.1
  refine ⟨⟨by rw [kr.1]; exact a1, by rw [(hl r (by omega)).1]; exact a2⟩, ⟨p, by rw [kr.2.2.1]; exact b1, by rw [(hl p (by omega)).1]; exact b2, b3.keep hl (fun a ha hS => hk a ha ?_)⟩, fun j hj => ?_⟩
  · rcases hS with q | q
    · exact Or.inl (by rw [q, b2])
    · exact Or.inr (by rw [q, b2])
  · obtain ⟨a, c1, c2, c3⟩ := h3 j hj
    have ka := hk a (by omega) (Or.inl (by rw [c3]))
    exact ⟨a, by rw [kr.2.2.1]; exact c1, by rw [ka.1]; exact c2, by rw [(hl a (by omega)).1]; exact c3⟩
def famT (t : List Int) : List Int := if np t = 0 then [] else fj (fa t 0)
def iniT (t : List Int) : List Int := if np t = 0 then [] else inits (gv t 0)
def RoV (c : CS) (ℓ : LB) (Es : List Nat) (D : Db) (r n : Nat) : Prop := yP c r 0 = some (Es.getD n 0) ∧ (∃ p, yP c r 1 = some p ∧ PV c p (val D n 0) ∧ ∃ s, yP c p 0 = some s ∧ yK c s = 7 ∧ EO c ℓ (ℓ s).1) ∧ (∃ a, yP c r 3 = some a ∧ yT c a = famT (val D n 0)) ∧ ∃ a, yP c r 4 = some a ∧ yT c a = iniT (val D n 0)
theorem RoV.keep {c d : CS} {ℓ ℓ' : LB} {Es : List Nat} {D : Db} {r n : Nat} (h : RoV c ℓ Es D r n) (hI : RoI c ℓ r) (hl : ∀ a, ¬ yK c a = 0 → ℓ' a = ℓ a ∧ yK d a = yK c a) (hk : ∀ a, ¬ yK c a = 0 → OR ℓ r a → ¬ (∃ j, (j = 2 ∨ j = 5 ∨ j = 7) ∧ ℓ a = (r, j)) → Kp c d a) (hkp : yP d r = yP c r) (hs : ∀ a, yK c a = 7 → EO c ℓ (ℓ a).1 → Kp c d a) : RoV d ℓ' Es D r n := by
  obtain ⟨h1, ⟨p, p1, p2, s, s1, s2, s3⟩, ⟨a, a1, a2⟩, b, b1, b2⟩ := h
  obtain ⟨⟨i1, i2⟩, ⟨p', q1, q2, q3⟩, i4⟩ := hI
  rw [p1] at q1
  cases q1
  have pK := q3.1
  have ho : ¬ yK c (ℓ s).1 = 0 := by have := s3.1; omega
  refine ⟨by rw [hkp]; exact h1, ⟨p, by rw [hkp]; exact p1, p2.keep q3 s1 (fun a ha hS => ?_), s, ?_, ?_, ?_⟩, ⟨a, by rw [hkp]; exact a1, ?_⟩, b, by rw [hkp]; exact b1, ?_⟩
  · rcases hS with (q | q) | q
    · subst q
      exact hk a ha (Or.inl (by rw [q2])) (fun ⟨j, hj, e⟩ => by rw [q2] at e; have := congrArg Prod.snd e; dsimp only at this; omega)
    · refine hk a ha (Or.inr (by rw [q, q2])) (fun ⟨j, hj, e⟩ => ?_)
      rw [e] at q
      have q : r = p := q
      rw [q] at i1
      omega
    · rw [q]
      exact hs s s2 s3
  · have := hk p (by omega) (Or.inl (by rw [q2])) (fun ⟨j, hj, e⟩ => by rw [q2] at e; have := congrArg Prod.snd e; dsimp only at this; omega)
    rw [this.2.2.1]; exact s1
  · rw [(hs s s2 s3).1]; exact s2
  · rw [(hl s (by omega)).1]; exact ⟨by rw [(hl _ ho).2]; exact s3.1, by rw [(hl _ ho).1]; exact s3.2⟩
  · obtain ⟨a', c1, c2, c3⟩ := i4 3 (Or.inr (Or.inl rfl))
    rw [show ((3 : Nat) : Int) = 3 from rfl, a1] at c1
    cases c1
    have := hk a (by omega) (Or.inl (by rw [c3])) (fun ⟨j, hj, e⟩ => by rw [c3] at e; have := congrArg Prod.snd e; dsimp only at this; omega)
    rw [this.2.2.2.1]; exact a2
  · obtain ⟨a', c1, c2, c3⟩ := i4 4 (Or.inr (Or.inr (Or.inl rfl)))
    rw [show ((4 : Nat) : Int) = 4 from rfl, b1] at c1
    cases c1
    have := hk b (by omega) (Or.inl (by rw [c3])) (fun ⟨j, hj, e⟩ => by rw [c3] at e; have := congrArg Prod.snd e; dsimp only at this; omega)
    rw [this.2.2.2.1]; exact b2
/-- all that a row's methods read -/
def RC (c : CS) (ℓ : LB) (Es : List Nat) (D : Db) (r n : Nat) : Prop := DOK D ∧ EI c ℓ Es D ∧ n < dN D ∧ RoI c ℓ r ∧ RoV c ℓ Es D r n
theorem RC.out {c : CS} {ℓ : LB} {Es : List Nat} {D : Db} {r n a j : Nat} {l : List Int} (h : RC c ℓ Es D r n) (ha : ℓ a = (r, j)) (hj : j = 2 ∨ j = 5 ∨ j = 7) : RC (wT c a l) ℓ Es D r n := by
  obtain ⟨h1, h2, h3, h4, h5⟩ := h
  have rK := h4.1.1
  have n2 : ∀ x, EO c ℓ (ℓ x).1 → ¬ x = a := fun x hx q => by rw [q, ha] at hx; have hx : yK c r = 2 := hx.1; omega
  refine ⟨h1, h2.keep (fun _ _ => rfl) (fun x _ hx => Kp_wT (n2 x hx)), h3, ?_, h5.keep h4 (fun _ _ => ⟨rfl, rfl⟩) (fun x _ _ hx => Kp_wT (fun q => hx ⟨j, hj, by rw [q]; exact ha⟩)) rfl (fun x _ hx => Kp_wT (n2 x hx))⟩
  obtain ⟨i1, ⟨p, q1, q2, q3⟩, i4⟩ := h4
  have pK := q3.1
  refine ⟨i1, ⟨p, q1, q2, q3.keep (fun _ _ => ⟨rfl, rfl⟩) (fun x _ hS => Kp_wT (fun q => ?_))⟩, i4⟩
  rcases hS with s | s
  · rw [← s, q] at q2
    rw [ha] at q2
    have := congrArg Prod.snd q2
    dsimp only at this
    omega
  · rw [q, ha] at s
    have s : r = p := s
    rw [s] at rK
    omega
/-- the text of a sort -/
def odT (D : Db) (s : Int) (n : Nat) : List Int := ((if s = 2 then val D n 2 ++ [0] ++ ordT (val D n 0) else ordT (val D n 0) ++ (val D n 2 ++ [0])) ++ val D n 1).map fo
theorem ordT_len {t : List Int} (ht : t.length ≤ 80) : (ordT t).length ≤ 202 := by
  have h1 := odp_len t (np t)
  have h2 := w3_sum t (np t)
  have h3 := np40 ht
  unfold ordT
  rw [List.length_append]
  show _ + 1 ≤ _
  omega
theorem ordT_R {t : List Int} (ht : ∀ x, x ∈ t → okc x) : ∀ x, x ∈ ordT t → 0 ≤ x ∧ x ≤ 255 := by
  have hw : ∀ ws, wdK t ws → ∀ x, x ∈ jn ws → 0 ≤ x ∧ x ≤ 255 := fun ws hk x hx => by
    have := hk.ok ht x hx
    unfold okc at this
    omega
  have ho : ∀ n x, x ∈ odp t n → 0 ≤ x ∧ x ≤ 255 := fun n => by
    induction n with
    | zero => intro x hx; cases hx
    | succ n ih =>
      intro x hx
      have hx : x ∈ odp t n ++ (jn (fa t n) ++ [1] ++ jn (gv t n) ++ [1] ++ jn (pa t n) ++ [1]) := hx
      simp only [List.mem_append, List.mem_singleton] at hx
      rcases hx with q | (((((q | q) | q) | q) | q) | q)
      · exact ih x q
      · exact hw _ (fa_K t n) x q
      · omega
      · exact hw _ (gv_K t n) x q
      · omega
      · exact hw _ (pa_K t n) x q
      · omega
  intro x hx
  unfold ordT at hx
  rcases List.mem_append.mp hx with q | q
  · exact ho _ x q
  · have := List.mem_singleton.mp q
    omega
section CRow
variable {g : Nat → Nat} {B : Nat} {O : Nat → Prop} {c : CS} {Q : Rs → CS → Prop} {ℓ : LB} {Es : List Nat} {D : Db} {r n : Nat}
/-- the facts of a row's Persons -/
theorem RC.pv (h : RC c ℓ Es D r n) : ∃ p, yP c r 1 = some p ∧ PV c p (val D n 0) ∧ ∀ a j, ℓ a = (r, j) → ¬ yP c p 0 = some a := by
  obtain ⟨h1, h2, h3, h4, -, ⟨p, p1, p2, s, s1, s2, s3⟩, -⟩ := h
  refine ⟨p, p1, p2, fun a j ha q => ?_⟩
  rw [s1] at q
  cases q
  rw [ha] at s3
  have s3 : yK c r = 2 := s3.1
  have := h4.1.1
  omega
theorem RC.slot (h : RC c ℓ Es D r n) (j : Nat) (hj : jT j) : ∃ a, yP c r j = some a ∧ yK c a = 7 ∧ ℓ a = (r, j) := h.2.2.2.1.2.2 j hj
theorem RC.rk (h : RC c ℓ Es D r n) : yK c r = 6 := h.2.2.2.1.1.1
theorem RC.ent (h : RC c ℓ Es D r n) : yP c r 0 = some (Es.getD n 0) ∧ yK c (Es.getD n 0) = 2 := ⟨h.2.2.2.2.1, (h.2.1.2 n h.2.2.1).1.1⟩
/-- a value's text is not one of a row's own -/
theorem RC.vne (h : RC c ℓ Es D r n) {a w j : Nat} (ha : ℓ a = (r, j)) (hw : EO c ℓ (ℓ w).1) : ¬ w = a := fun q => by
  rw [q, ha] at hw
  have hw : yK c r = 2 := hw.1
  have := h.rk
  omega
theorem t41 {a : Nat} (h : RC c ℓ Es D r n) (ha : yP c r 2 = some a) (haK : yK c a = 7) (hal : ℓ a = (r, 2)) (hl : (yT c a).length ≤ 600) (hQ : Q (Sum.inl none) (wT c a (yT c a ++ (val D n 2 ++ [0])))) : CW g B O 41 0 [some (.ref r)] [] c Q := by
  have hv := (val_ok h.1 n 2).1
  obtain ⟨e1, e2⟩ := h.ent
  refine c41_0 ⟨h.rk, a, ha, h.rk, _, e1, e2, t3 (f := 2) h.1 h.2.1 h.2.2.1 (by decide) (fun w w1 w2 w3 => c41_12 ⟨haK, w1, by rw [w2]; omega, fun d ed => ?_⟩)⟩
  rw [w2] at ed
  subst ed
  refine ⟨h.rk, a, ha, haK, by decide, by rw [yT_wT, List.length_append]; omega, fun d2 ed2 => ?_⟩
  rw [yT_wT, wT_wT, List.append_assoc] at ed2
  rw [ed2]
  exact hQ
theorem t40 {a : Nat} {s : Int} (h : RC c ℓ Es D r n) (hs : 0 ≤ s ∧ s ≤ 2) (ha : yP c r 2 = some a) (haK : yK c a = 7) (hal : ℓ a = (r, 2)) (hQ : Q (Sum.inl none) (wT c a (odT D s n))) : CW g B O 40 0 [some (.ref r), some (.int (iI s))] [] c Q := by
  obtain ⟨p, p1, p2, p3⟩ := h.pv
  have ht := val_ok h.1 n 0
  have hy := val_ok h.1 n 2
  have hti := val_ok h.1 n 1
  have hol := ordT_len ht.1
  have hor := ordT_R ht.2
  obtain ⟨e1, e2⟩ := h.ent
  -- the title, and all folded
  have c45 : ∀ Z : List Int, Z.length ≤ 400 → (∀ x, x ∈ Z → 0 ≤ x ∧ x ≤ 255) → odT D s n = (Z ++ val D n 1).map fo → ∀ {l1 : Option Value}, CW g B O 40 45 [some (.ref r), l1] [] (wT c a Z) Q := fun Z hZ hZR hod l1 => by
    have h' := h.out (l := Z) hal (Or.inl rfl)
    refine c40_45 ⟨h.rk, a, ha, h.rk, _, e1, e2, t3 (f := 1) h'.1 h'.2.1 h'.2.2.1 (by decide) (fun w w1 w2 w3 => c40_57 ⟨haK, w1, by rw [yT_wT, w2]; omega, fun d ed => ?_⟩)⟩
    rw [w2, yT_wT, wT_wT] at ed
    subst ed
    refine ⟨h.rk, a, ha, haK, fun x hx => ?_, fun d2 ed2 => ?_⟩
    · rw [yT_wT] at hx
      rcases List.mem_append.mp hx with q | q
      · exact hZR x q
      · have := hti.2 x q
        unfold okc at this
        omega
    · rw [yT_wT, wT_wT, ← hod] at ed2
      rw [ed2]
      exact hQ
  have yR : ∀ x, x ∈ val D n 2 ++ [0] → 0 ≤ x ∧ x ≤ 255 := fun x hx => by
    rcases List.mem_append.mp hx with q | q
    · have := hy.2 x q
      unfold okc at this
      omega
    · have := List.mem_singleton.mp q
      omega
  refine c40_0 ⟨h.rk, a, ha, haK, fun d4 e4 => ⟨fun q => ?_, fun q => ?_⟩⟩
  · subst e4
    have h' := h.out (l := []) hal (Or.inl rfl)
    refine ⟨h.rk, p, p1, h.rk, a, ha, p2.1.1, t35 (p2.out (p3 a 2 hal)) ht.1 haK (p3 a 2 hal) (by rw [yT_wT]; exact Nat.zero_le _) ?_⟩
    rw [yT_wT, wT_wT, List.nil_append]
    have h'' := h.out (l := ordT (val D n 0)) hal (Or.inl rfl)
    refine c40_41 ⟨h.rk, t41 h'' ha haK hal (by rw [yT_wT]; omega) ?_⟩
    rw [yT_wT, wT_wT]
    refine c45 _ (by rw [List.length_append, List.length_append]; show _ + (_ + 1) ≤ _; omega) (fun x hx => ?_) ?_
    · rcases List.mem_append.mp hx with s | s
      · exact hor x s
      · exact yR x s
    · unfold odT; rw [if_neg q]
  · subst e4
    have h' := h.out (l := []) hal (Or.inl rfl)
    refine ⟨h.rk, t41 h' ha haK hal (by rw [yT_wT]; exact Nat.zero_le _) ?_⟩
    rw [yT_wT, wT_wT, List.nil_append]
    have hp2 := p2.out (l := val D n 2 ++ [0]) (p3 a 2 hal)
    refine c40_16 ⟨h.rk, p, p1, h.rk, a, ha, hp2.1.1, t35 hp2 ht.1 haK (p3 a 2 hal) (by rw [yT_wT, List.length_append]; show _ + 1 ≤ _; omega) ?_⟩
    rw [yT_wT, wT_wT]
    refine c40_27 (c45 _ (by rw [List.length_append, List.length_append]; show _ + 1 + _ ≤ _; omega) (fun x hx => ?_) ?_)
    · rcases List.mem_append.mp hx with s | s
      · exact yR x s
      · exact hor x s
    · unfold odT; rw [if_pos q]
/-- whether the first persons may be mistaken -/
def misB (D : Db) (n m : Nat) : Bool := decide (0 < np (val D n 0) ∧ 0 < np (val D m 0) ∧ ¬ iniT (val D n 0) = iniT (val D m 0) ∧ famT (val D n 0) = famT (val D m 0))
theorem t42 {r' m : Nat} (h : RC c ℓ Es D r n) (h' : RC c ℓ Es D r' m) (hQ : Q (Sum.inl (some (.int (iI (if misB D n m = true then 1 else 0))))) c) : CW g B O 42 0 [some (.ref r), some (.ref r')] [] c Q := by
  obtain ⟨p, p1, p2, -⟩ := h.pv
  obtain ⟨p', p1', p2', -⟩ := h'.pv
  have n1 := p2.2.1
  have n2 := p2'.2.1
  have t40' := np40 (val_ok h.1 n 0).1
  have t40'' := np40 (val_ok h.1 m 0).1
  obtain ⟨-, -, ⟨f1, f2, f3⟩, i1, i2, i3⟩ := h.2.2.2.2
  obtain ⟨-, -, ⟨f1', f2', f3'⟩, i1', i2', i3'⟩ := h'.2.2.2.2
  obtain ⟨x3, y31, y32, -⟩ := h.slot 3 (Or.inr (Or.inl rfl))
  obtain ⟨x4, y41, y42, -⟩ := h.slot 4 (Or.inr (Or.inr (Or.inl rfl)))
  obtain ⟨x3', y31', y32', -⟩ := h'.slot 3 (Or.inr (Or.inl rfl))
  obtain ⟨x4', y41', y42', -⟩ := h'.slot 4 (Or.inr (Or.inr (Or.inl rfl)))
  rw [show ((3 : Nat) : Int) = 3 from rfl, f2] at y31
  rw [show ((4 : Nat) : Int) = 4 from rfl, i2] at y41
  rw [show ((3 : Nat) : Int) = 3 from rfl, f2'] at y31'
  rw [show ((4 : Nat) : Int) = 4 from rfl, i2'] at y41'
  cases y31
  cases y41
  cases y31'
  cases y41'
  have no : ¬ misB D n m = true → ∀ {l0 l1 : Option Value}, CW g B O 42 52 [l0, l1] [] c Q := fun q l0 l1 => by
    rw [if_neg q] at hQ
    exact c42_52 (c42_53 ⟨Or.inl rfl, hQ⟩)
  have iff : misB D n m = true ↔ (0 < np (val D n 0) ∧ 0 < np (val D m 0) ∧ ¬ iniT (val D n 0) = iniT (val D m 0) ∧ famT (val D n 0) = famT (val D m 0)) := decide_eq_true_iff
  refine c42_0 ⟨h.rk, p, p1, p2.1.1, t19 p2.1.1 ?_⟩
  rw [n1]
  refine c42_7 ⟨fun q => no (fun s => by have := iff.mp s; omega), fun q => ⟨h'.rk, p', p1', p2'.1.1, t19 p2'.1.1 ?_⟩⟩
  rw [n2]
  refine c42_17 ⟨fun q1 => no (fun s => by have := iff.mp s; omega), fun q1 => ⟨h.rk, i1, i2, h'.rk, i1', i2', y42, y42', fun q2 => no (fun s => (iff.mp s).2.2.1 ?_), fun q2 => ⟨h.rk, f1, f2, h'.rk, f1', f2', y32, y32', fun q3 => c42_53 ⟨Or.inr rfl, ?_⟩, fun q3 => no (fun s => q3 ?_)⟩⟩⟩
  · rw [← i3, ← i3']; exact q2
  · rw [if_pos (iff.mpr ⟨by omega, by omega, fun s => q2 (by rw [i3, i3']; exact s), by rw [← f3, ← f3']; exact q3⟩)] at hQ
    exact hQ
  · rw [f3, f3']; exact (iff.mp s).2.2.2
end CRow
