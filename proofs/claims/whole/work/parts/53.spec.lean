/-! WHAT EACH CALL ANSWERS AND DOES -/
def okB (x : Int) : Bool := decide ((32 ≤ x ∧ x ≤ 126) ∨ (192 ≤ x ∧ x ≤ 255 ∧ ¬ x = 215 ∧ ¬ x = 247))
theorem okB_iff {x : Int} : okB x = true ↔ okc x := decide_eq_true_iff
def btk (c : Int) (k : Nat) : Int := c / 2 ^ (8 * k) % 256
def chK (c : Int) : Nat → List Int
  | 0 => []
  | k + 1 => chK c k ++ if btk c k = 0 then [] else [btk c k]
def gdK (c : Int) : Nat → Bool
  | 0 => true
  | k + 1 => gdK c k && (decide (btk c k = 0) || okB (btk c k))
theorem chK_len (c : Int) : ∀ k, (chK c k).length ≤ k
  | 0 => Nat.le_refl _
  | k + 1 => by
    have := chK_len c k
    unfold chK
    rw [List.length_append]
    split
    · show _ + 0 ≤ _; omega
    · show _ + 1 ≤ _; omega
theorem chK_ok (c : Int) : ∀ k, gdK c k = true → ∀ x, x ∈ chK c k → okc x
  | 0, _, x, hx => by cases hx
  | k + 1, h, x, hx => by
    unfold gdK at h
    rw [Bool.and_eq_true, Bool.or_eq_true, decide_eq_true_iff] at h
    unfold chK at hx
    rcases List.mem_append.mp hx with q | q
    · exact chK_ok c k h.1 x q
    · split at q
      · cases q
      · next hz =>
        rw [List.mem_singleton.mp q]
        exact okB_iff.mp (h.2.resolve_left hz)
def addE (D : Db) (k : Int) : Db := (dN D + 1, fun e => if e = dN D then k else dK D e, dY D, dF D, dX D)
def setY (D : Db) (e : Nat) (y : List Int) : Db := (dN D, dK D, fun x => if x = e then y else dY D x, dF D, dX D)
def setF (D : Db) (e f : Nat) (y : List Int) : Db := (dN D, dK D, dY D, fun x z => if x = e ∧ z = f then y else dF D x z, dX D)
def setX (D : Db) (e o : Nat) : Db := (dN D, dK D, dY D, dF D, fun x => if x = e then some o else dX D x)
/-- whether x is crossed to e, over any number -/
def lds (C : Nat → Option Nat) : Nat → Nat → Nat → Bool
  | 0, _, _ => false
  | n + 1, x, e => if x = e then true else match C x with | none => false | some o => lds C n o e
theorem addE_ok {D : Db} {k : Int} (h : DOK D) (hn : dN D < 24) (hk : 0 ≤ k ∧ k ≤ 4) : DOK (addE D k) := by
  obtain ⟨h1, h2, h3, h4, h5, h6, h7⟩ := h
  refine ⟨by show dN D + 1 ≤ 24; omega, fun e he => ?_, h3, h4, fun e he => h5 e (by have he : dN D + 1 ≤ e := he; omega), fun e o ho => by have := h6 e o ho; show o < dN D + 1; omega, h7⟩
  have he : e < dN D + 1 := he
  show 0 ≤ (if e = dN D then k else dK D e) ∧ (if e = dN D then k else dK D e) ≤ 4
  split
  · exact hk
  · exact h2 e (by omega)
theorem setY_ok {D : Db} {e : Nat} {y : List Int} (h : DOK D) (he : e < dN D) (hy : y.length ≤ 16 ∧ ∀ x, x ∈ y → okc x) : DOK (setY D e y) := by
  obtain ⟨h1, h2, h3, h4, h5, h6, h7⟩ := h
  refine ⟨h1, h2, fun x => ?_, h4, fun x hx => ?_, h6, h7⟩
  · show (if x = e then y else dY D x).length ≤ 16 ∧ ∀ z, z ∈ (if x = e then y else dY D x) → okc z
    split
    · exact hy
    · exact h3 x
  · have hx : dN D ≤ x := hx
    show (if x = e then y else dY D x) = [] ∧ _
    rw [if_neg (by omega)]
    exact h5 x hx
theorem setF_ok {D : Db} {e f : Nat} {y : List Int} (h : DOK D) (he : e < dN D) (hy : y.length ≤ 80 ∧ ∀ x, x ∈ y → okc x) : DOK (setF D e f y) := by
  obtain ⟨h1, h2, h3, h4, h5, h6, h7⟩ := h
  refine ⟨h1, h2, h3, fun x z => ?_, fun x hx => ?_, h6, h7⟩
  · show (if x = e ∧ z = f then y else dF D x z).length ≤ 80 ∧ ∀ w, w ∈ (if x = e ∧ z = f then y else dF D x z) → okc w
    split
    · exact hy
    · exact h4 x z
  · have hx : dN D ≤ x := hx
    refine ⟨(h5 x hx).1, fun z => ?_, (h5 x hx).2.2⟩
    show (if x = e ∧ z = f then y else dF D x z) = []
    rw [if_neg (by omega)]
    exact (h5 x hx).2.1 z
/-! crossing ends: no ring -/
theorem en_mono (C : Nat → Option Nat) : ∀ {n m x : Nat}, en C n x → n ≤ m → en C m x
  | 0, _, _, h, _ => h.elim
  | n + 1, 0, _, _, h => by omega
  | n + 1, m + 1, x, h, hm => by
    unfold en at h ⊢
    cases hc : C x with
    | none => trivial
    | some o =>
      rw [hc] at h
      exact en_mono C (n := n) (m := m) h (by omega)
def tln (C : Nat → Option Nat) : Nat → Nat → Nat
  | 0, _ => 0
  | n + 1, x => match C x with | none => 1 | some o => 1 + tln C n o
def chn (C : Nat → Option Nat) : Nat → Nat → List Nat
  | 0, _ => []
  | n + 1, x => match C x with | none => [x] | some o => x :: chn C n o
theorem tln_same (C : Nat → Option Nat) : ∀ {n m x : Nat}, en C n x → n ≤ m → tln C m x = tln C n x
  | 0, _, _, h, _ => h.elim
  | n + 1, 0, _, _, h => by omega
  | n + 1, m + 1, x, h, hm => by
    unfold en at h
    unfold tln
    cases hc : C x with
    | none => rfl
    | some o =>
      rw [hc] at h
      have h : en C n o := h
      show 1 + tln C m o = 1 + tln C n o
      rw [tln_same C (n := n) (m := m) h (by omega)]
theorem tln_n {C : Nat → Option Nat} {n x : Nat} (h : C x = none) : tln C (n + 1) x = 1 := by
  show (match C x with | none => 1 | some o => 1 + tln C n o) = 1
  rw [h]
theorem tln_c {C : Nat → Option Nat} {n x o : Nat} (h : C x = some o) : tln C (n + 1) x = 1 + tln C n o := by
  show (match C x with | none => 1 | some o => 1 + tln C n o) = _
  rw [h]
theorem chn_n {C : Nat → Option Nat} {n x : Nat} (h : C x = none) : chn C (n + 1) x = [x] := by
  show (match C x with | none => [x] | some o => x :: chn C n o) = _
  rw [h]
theorem chn_c {C : Nat → Option Nat} {n x o : Nat} (h : C x = some o) : chn C (n + 1) x = x :: chn C n o := by
  show (match C x with | none => [x] | some o => x :: chn C n o) = _
  rw [h]
theorem en_c {C : Nat → Option Nat} {n x o : Nat} (h : C x = some o) : en C (n + 1) x ↔ en C n o := by
  show (match C x with | none => True | some o => en C n o) ↔ _
  rw [h]
theorem chn_ok (C : Nat → Option Nat) (K d : Nat) (hC : ∀ x o, C x = some o → o < d) (hen : ∀ x, en C K x) : ∀ (n x : Nat), n ≤ K → en C n x → x < d → (chn C n x).Nodup ∧ (∀ y, y ∈ chn C n x → y < d ∧ tln C K y ≤ tln C n x) ∧ (chn C n x).length = tln C n x
  | 0, _, _, h, _ => h.elim
  | n + 1, x, hn, h, hx => by
    have e0 := tln_same C h hn
    cases hc : C x with
    | none =>
      rw [tln_n hc] at e0
      rw [chn_n hc, tln_n hc]
      refine ⟨by simp, fun y hy => ?_, rfl⟩
      rw [List.mem_singleton.mp hy, e0]
      exact ⟨hx, Nat.le_refl _⟩
    | some o =>
      have h := (en_c hc).mp h
      have ho := hC x o hc
      obtain ⟨h1, h2, h3⟩ := chn_ok C K d hC hen n o (by omega) h ho
      rw [tln_c hc] at e0
      rw [chn_c hc, tln_c hc]
      refine ⟨?_, fun y hy => ?_, ?_⟩
      · rw [List.nodup_cons]
        refine ⟨fun q => ?_, h1⟩
        have := (h2 x q).2
        omega
      · rcases List.mem_cons.mp hy with q | q
        · rw [q, e0]
          exact ⟨hx, Nat.le_refl _⟩
        · have := h2 y q
          omega
      · show (chn C n o).length + 1 = 1 + tln C n o
        omega
theorem en_tln (C : Nat → Option Nat) : ∀ {n x : Nat}, en C n x → en C (tln C n x) x
  | 0, _, h => h.elim
  | n + 1, x, h => by
    unfold en at h
    unfold tln
    cases hc : C x with
    | none =>
      show en C 1 x
      unfold en
      rw [hc]
      trivial
    | some o =>
      rw [hc] at h
      have h : en C n o := h
      show en C (1 + tln C n o) x
      rw [Nat.add_comm]
      unfold en
      rw [hc]
      exact en_tln C h
theorem en_24 {C : Nat → Option Nat} {K d : Nat} (hd : d ≤ 24) (hC : ∀ x o, C x = some o → o < d) (hn : ∀ x, d ≤ x → C x = none) (hen : ∀ x, en C K x) (x : Nat) : en C 24 x := by
  by_cases hx : x < d
  · obtain ⟨h1, h2, h3⟩ := chn_ok C K d hC hen K x (Nat.le_refl _) (hen x) hx
    have hl := DL.len (n := d) ⟨h1, fun y hy => (h2 y hy).1⟩
    exact en_mono C (en_tln C (hen x)) (by omega)
  · show en C (23 + 1) x
    unfold en
    rw [hn x (by omega)]
    trivial
theorem lds_no {C : Nat → Option Nat} {e o : Nat} : ∀ {n x : Nat}, en C n x → lds C n x e = false → en (fun y => if y = e then some o else C y) n x
  | 0, _, h, _ => h.elim
  | n + 1, x, h, hl => by
    unfold lds at hl
    by_cases q : x = e
    · rw [if_pos q] at hl; cases hl
    · rw [if_neg q] at hl
      unfold en at h ⊢
      show (match (if x = e then some o else C x) with | none => True | some o' => en _ n o')
      rw [if_neg q]
      cases hc : C x with
      | none => trivial
      | some o' =>
        rw [hc] at h hl
        exact lds_no (n := n) (x := o') h hl
theorem lds_yes {C : Nat → Option Nat} {e o : Nat} (ho : en (fun y => if y = e then some o else C y) 24 o) : ∀ {n x : Nat}, en C n x → en (fun y => if y = e then some o else C y) (n + 25) x
  | 0, _, h => h.elim
  | n + 1, x, h => by
    rw [show n + 1 + 25 = (n + 25) + 1 by omega]
    unfold en at h ⊢
    show (match (if x = e then some o else C x) with | none => True | some o' => en _ (n + 25) o')
    by_cases q : x = e
    · rw [if_pos q]
      exact en_mono _ ho (by omega)
    · rw [if_neg q]
      cases hc : C x with
      | none => trivial
      | some o' =>
        rw [hc] at h
        exact lds_yes ho (n := n) (x := o') h
theorem setX_ok {D : Db} {e o : Nat} (h : DOK D) (he : e < dN D) (ho : o < dN D) (hl : lds (dX D) 24 o e = false) : DOK (setX D e o) := by
  obtain ⟨h1, h2, h3, h4, h5, h6, h7⟩ := h
  have hX : dX (setX D e o) = fun y => if y = e then some o else dX D y := rfl
  refine ⟨h1, h2, h3, h4, fun x hx => ?_, fun x o' hxo => ?_, ?_⟩
  · have hx : dN D ≤ x := hx
    refine ⟨(h5 x hx).1, (h5 x hx).2.1, ?_⟩
    rw [hX]
    show (if x = e then some o else dX D x) = none
    rw [if_neg (by omega)]
    exact (h5 x hx).2.2
  · rw [hX] at hxo
    have hxo : (if x = e then some o else dX D x) = some o' := hxo
    show o' < dN D
    split at hxo
    · cases hxo; exact ho
    · exact h6 x o' hxo
  · rw [hX]
    have hoe := lds_no (o := o) (h7 o) hl
    refine fun x => en_24 (K := 24 + 25) h1 (fun y o' hy => ?_) (fun y hy => ?_) (fun y => lds_yes hoe (h7 y)) x
    · have hy : (if y = e then some o else dX D y) = some o' := hy
      split at hy
      · cases hy; exact ho
      · exact h6 y o' hy
    · show (if y = e then some o else dX D y) = none
      rw [if_neg (by omega)]
      exact (h5 y hy).2.2
/-- what a run tells: rows, letters, texts, what is missing, whether there was one -/
abbrev RO : Type := List Nat × List Nat × List (List Int) × List (Nat × Nat) × Bool
def oR (r : RO) : List Nat := r.1
def oE (r : RO) : List Nat := r.2.1
def oX (r : RO) : List (List Int) := r.2.2.1
def oM (r : RO) : List (Nat × Nat) := r.2.2.2.1
def oB (r : RO) : Bool := r.2.2.2.2
/-- data, what was cited first, how often was cited, sort, label, the latest run, what was printed -/
abbrev ST : Type := Db × List Nat × Nat × Int × Int × RO × List Int
def qD (s : ST) : Db := s.1
def qF (s : ST) : List Nat := s.2.1
def qN (s : ST) : Nat := s.2.2.1
def qS (s : ST) : Int := s.2.2.2.1
def qL (s : ST) : Int := s.2.2.2.2.1
def qR (s : ST) : RO := s.2.2.2.2.2.1
def qO (s : ST) : List Int := s.2.2.2.2.2.2
def wD (s : ST) (D : Db) : ST := (D, s.2)
def runO (s : ST) : RO := (rowsOf (qD s) (qS s) (qF s), lettersOf (qD s) (qL s) (rowsOf (qD s) (qS s) (qF s)), textsOf (qD s) (qL s) (rowsOf (qD s) (qS s) (qF s)), lacksOf (qD s) (rowsOf (qD s) (qS s) (qF s)), true)
def wRun (s : ST) : ST := (qD s, qF s, qN s, qS s, qL s, runO s, qO s)
def wOut (s : ST) (l : List Int) : ST := (qD s, qF s, qN s, qS s, qL s, qR s, l)
def wCit (s : ST) (e : Nat) : ST := (qD s, addN (qF s) e, qN s + 1, qS s, qL s, qR s, qO s)
def wSty (s : ST) (a b : Int) : ST := (qD s, qF s, qN s, a, b, qR s, qO s)
def st0 : ST := ((0, fun _ => 0, fun _ => [], fun _ _ => [], fun _ => none), [], 0, 0, 0, ([], [], [], [], false), [])
def tw (D : Db) : List Nat := (List.range (dN D)).filter (fun e => decide (¬ real D e = e))
def head (n : Nat) : List Int := tx 9 ++ nmb n ++ [41]
/-- a state that calls can come to -/
def SK (s : ST) : Prop := DOK (qD s) ∧ DL (dN (qD s)) (qF s) ∧ qN s ≤ 60 ∧ (0 ≤ qS s ∧ qS s ≤ 2) ∧ (0 ≤ qL s ∧ qL s ≤ 2) ∧
  ((oR (qR s)).length ≤ 24 ∧ (∀ x, x ∈ oR (qR s) → x < 24) ∧ (oE (qR s)).length = (oR (qR s)).length ∧ (oX (qR s)).length = (oR (qR s)).length ∧ (∀ x, x ∈ oX (qR s) → x.length ≤ 1000) ∧ (∀ x, x ∈ oE (qR s) → x ≤ 24) ∧ (oM (qR s)).length ≤ 96 ∧ (∀ x, x ∈ oM (qR s) → x.1 < 24 ∧ x.2 < 8) ∧ (oB (qR s) = false → oR (qR s) = [])) ∧ (qO s).length ≤ 1000
abbrev isE (s : ST) (e : Int) : Prop := 0 ≤ e ∧ e < dN (qD s)
abbrev RZ : Type := Int × Int × ST
def x0 (s : ST) (k : Int) : RZ := if dN (qD s) = 24 then (1, 0, s) else (0, dN (qD s), wD s (addE (qD s) (if k < 0 ∨ 3 < k then 4 else k)))
def x1 (s : ST) (e c : Int) : RZ := if ¬ isE s e then (1, 0, s) else if gdK c 4 = false then (2, 0, s) else if 16 < (dY (qD s) e.toNat).length + (chK c 4).length then (3, 0, s) else (0, 0, wD s (setY (qD s) e.toNat (dY (qD s) e.toNat ++ chK c 4)))
def x2 (s : ST) (e f c : Int) : RZ := if ¬ isE s e then (1, 0, s) else if f < 0 ∨ 7 < f then (2, 0, s) else if gdK c 4 = false then (3, 0, s) else if 80 < (dF (qD s) e.toNat f.toNat).length + (chK c 4).length then (4, 0, s) else (0, 0, wD s (setF (qD s) e.toNat f.toNat (dF (qD s) e.toNat f.toNat ++ chK c 4)))
def x3 (s : ST) (e : Int) : RZ := if ¬ isE s e then (1, 0, s) else if qN s = 60 then (2, 0, s) else (0, qN s + 1, wCit s e.toNat)
def x4 (s : ST) (e o : Int) : RZ := if ¬ (isE s e ∧ isE s o) then (1, 0, s) else if lds (dX (qD s)) 24 o.toNat e.toNat = true then (0, 0, s) else (0, 1, wD s (setX (qD s) e.toNat o.toNat))
def x5 (s : ST) (a b : Int) : RZ := if a < 0 ∨ 2 < a ∨ b < 0 ∨ 2 < b then (1, 0, s) else (0, 10 * qS s + qL s, wSty s a b)
def x6 (s : ST) : RZ := (0, (rowsOf (qD s) (qS s) (qF s)).length, wRun s)
def x7 (s : ST) (i : Int) : RZ := if 0 ≤ i ∧ i < (oR (qR s)).length then (0, (oR (qR s)).getD i.toNat 0, s) else (1, 0, s)
def x8 (s : ST) (i : Int) : RZ := if 0 ≤ i ∧ i < (oR (qR s)).length then (0, (oE (qR s)).getD i.toNat 0, s) else (1, 0, s)
def x9 (s : ST) (e p i : Int) : RZ := if ¬ isE s e then (1, 0, s) else if p < 0 ∨ np (val (qD s) e.toNat 0) ≤ p then (2, 0, s) else if i = -1 then (0, (inits (gv (val (qD s) e.toNat 0) p.toNat)).length, s) else if i < 0 ∨ (inits (gv (val (qD s) e.toNat 0) p.toNat)).length ≤ i then (2, 0, s) else (0, (inits (gv (val (qD s) e.toNat 0) p.toNat)).getD i.toNat 0, s)
def x10 (s : ST) (i w : Int) : RZ := if i = -1 then (0, (oM (qR s)).length, s) else if i < 0 ∨ (oM (qR s)).length ≤ i ∨ w < 0 ∨ 1 < w then (1, 0, s) else (0, if w = 0 then ((oM (qR s)).getD i.toNat (0, 0)).1 else ((oM (qR s)).getD i.toNat (0, 0)).2, s)
def x11 (s : ST) (i : Int) : RZ := if oB (qR s) = false then (1, 0, s) else if i = -1 then (0, (head (oR (qR s)).length).length, wOut s (head (oR (qR s)).length)) else if 0 ≤ i ∧ i < (oR (qR s)).length then (0, ((oX (qR s)).getD i.toNat []).length, wOut s ((oX (qR s)).getD i.toNat [])) else (1, 0, s)
def x12 (s : ST) (i : Int) : RZ := if 0 ≤ i ∧ i < (qO s).length then (0, (qO s).getD i.toNat 0, s) else (1, 0, s)
def x13 (s : ST) (i : Int) : RZ := if i = -1 then (0, (tw (qD s)).length, s) else if 0 ≤ i ∧ i < (tw (qD s)).length then (0, (tw (qD s)).getD i.toNat 0, s) else (1, 0, s)
theorem SK_D {s : ST} {D : Db} (h : SK s) (hD : DOK D) (hn : dN (qD s) ≤ dN D) : SK (wD s D) := by
  obtain ⟨h1, h2, h3⟩ := h
  exact ⟨hD, ⟨h2.1, fun x hx => by have := h2.2 x hx; show x < dN D; omega⟩, h3⟩
theorem SK0 {s : ST} {k : Int} (h : SK s) : SK (x0 s k).2.2 := by
  unfold x0
  split
  · exact h
  · next q =>
    have := h.1.1
    refine SK_D h (addE_ok h.1 (by omega) ?_) (Nat.le_succ _)
    split <;> omega
theorem SK1 {s : ST} {e c : Int} (h : SK s) : SK (x1 s e c).2.2 := by
  unfold x1
  split
  · exact h
  · next q =>
    split
    · exact h
    · next q2 =>
      split
      · exact h
      · next q3 =>
        have q := Decidable.of_not_not q
        refine SK_D h (setY_ok h.1 (by omega) ⟨by rw [List.length_append]; omega, fun x hx => ?_⟩) (Nat.le_refl _)
        rcases List.mem_append.mp hx with r | r
        · exact (h.1.2.2.1 _).2 x r
        · exact chK_ok c 4 (by simpa using q2) x r
theorem SK2 {s : ST} {e f c : Int} (h : SK s) : SK (x2 s e f c).2.2 := by
  unfold x2
  split
  · exact h
  · next q =>
    split
    · exact h
    · split
      · exact h
      · next q2 =>
        split
        · exact h
        · next q3 =>
          have q := Decidable.of_not_not q
          refine SK_D h (setF_ok h.1 (by omega) ⟨by rw [List.length_append]; omega, fun x hx => ?_⟩) (Nat.le_refl _)
          rcases List.mem_append.mp hx with r | r
          · exact (h.1.2.2.2.1 _ _).2 x r
          · exact chK_ok c 4 (by simpa using q2) x r
theorem SK3 {s : ST} {e : Int} (h : SK s) : SK (x3 s e).2.2 := by
  unfold x3
  split
  · exact h
  · next q =>
    have q := Decidable.of_not_not q
    split
    · exact h
    · obtain ⟨h1, h2, h3, h4⟩ := h
      have he : e.toNat < dN (qD s) := by omega
      exact ⟨h1, addN_DL h2 he, by show qN s + 1 ≤ 60; omega, h4⟩
theorem SK4 {s : ST} {e o : Int} (h : SK s) : SK (x4 s e o).2.2 := by
  unfold x4
  split
  · exact h
  · next q =>
    have q := Decidable.of_not_not q
    split
    · exact h
    · next q2 => exact SK_D h (setX_ok h.1 (by omega) (by omega) (by simpa using q2)) (Nat.le_refl _)
theorem SK5 {s : ST} {a b : Int} (h : SK s) : SK (x5 s a b).2.2 := by
  unfold x5
  split
  · exact h
  · next q =>
    obtain ⟨h1, h2, h3, h4, h5, h6⟩ := h
    exact ⟨h1, h2, h3, by show 0 ≤ a ∧ a ≤ 2; omega, by show 0 ≤ b ∧ b ≤ 2; omega, h6⟩
theorem ltr_le (Bs : List (List Int)) (k : Nat) : ltr Bs k ≤ Bs.length := by
  unfold ltr
  split
  · omega
  · split
    · omega
    · have h1 := List.count_le_length (a := Bs.getD k []) (l := Bs.take (k + 1))
      rw [List.length_take] at h1
      omega
theorem txt_len {D : Db} (hD : DOK D) (lb : Int) (L : List Nat) (k l e e' : Nat) : (txt D lb k (base D lb L e') l e).length ≤ 1000 := by
  have h1 := base_len hD lb L e'
  have h2 := lbl_len lb k (base D lb L e') l
  have h3 := pcs_len hD e
  unfold txt
  rw [List.length_append, List.length_append]
  split
  · show _ + _ + 0 ≤ _; omega
  · show _ + _ + 1 ≤ _; omega
theorem bases_get {D : Db} {lb : Int} {L : List Nat} {k : Nat} (h : k < L.length) : (basesOf D lb L).getD k [] = base D lb L (L.getD k 0) := by
  unfold basesOf
  rw [List.getD_eq_getElem?_getD, List.getD_eq_getElem?_getD, List.getElem?_map, List.getElem?_eq_getElem h]
  rfl
theorem lck_ok {D : Db} {e : Nat} : (lck D e).length ≤ 4 ∧ ∀ x, x ∈ lck D e → x.1 = e ∧ x.2 < 8 := by
  have hw : ∀ f, (wnt D e f).length ≤ 1 := wnt_len D e
  have hm : ∀ f x, x ∈ wnt D e f → x = (e, f) := fun f x hx => by
    unfold wnt at hx
    split at hx
    · exact List.mem_singleton.mp hx
    · cases hx
  have hl : ∀ l : List Nat, (l.flatMap (wnt D e)).length ≤ l.length := fun l => by
    induction l with
    | nil => exact Nat.le_refl _
    | cons a l ih =>
      have := hw a
      rw [List.flatMap_cons, List.length_append]
      show _ ≤ l.length + 1
      omega
  have hn : (ned (dK D e)).length ≤ 4 ∧ ∀ f, f ∈ ned (dK D e) → f < 8 := by
    unfold ned
    (repeat' split) <;> exact ⟨by decide, by decide⟩
  refine ⟨Nat.le_trans (hl _) hn.1, fun x hx => ?_⟩
  unfold lck at hx
  obtain ⟨f, hf, hx⟩ := List.mem_flatMap.mp hx
  rw [hm f x hx]
  exact ⟨rfl, hn.2 f hf⟩
theorem lacks_len (D : Db) : ∀ L : List Nat, (lacksOf D L).length ≤ 4 * L.length
  | [] => Nat.le_refl _
  | e :: L => by
    have h1 := lacks_len D L
    have h2 := (lck_ok (D := D) (e := e)).1
    show (lck D e ++ lacksOf D L).length ≤ 4 * (L.length + 1)
    rw [List.length_append]
    omega
theorem SK6 {s : ST} (h : SK s) : SK (x6 s).2.2 := by
  obtain ⟨h1, h2, h3, h4, h5, h6, h7⟩ := h
  have hL := rowsOf_DL (D := qD s) (s := qS s) (F := qF s) h2.2
  have hl := hL.len
  have hd := h1.1
  refine ⟨h1, h2, h3, h4, h5, ⟨?_, fun x hx => ?_, ?_, ?_, fun x hx => ?_, fun x hx => ?_, ?_, fun x hx => ?_, fun q => (by cases q)⟩, h7⟩
  · show (rowsOf (qD s) (qS s) (qF s)).length ≤ 24; omega
  · have := hL.2 x hx; omega
  · show ((List.range _).map _).length = (rowsOf (qD s) (qS s) (qF s)).length
    rw [List.length_map, List.length_range]
  · show ((List.range _).map _).length = (rowsOf (qD s) (qS s) (qF s)).length
    rw [List.length_map, List.length_range]
  · obtain ⟨k, hk, e⟩ := List.mem_map.mp hx
    have hk := List.mem_range.mp hk
    rw [← e, bases_get hk]
    exact txt_len h1 _ _ _ _ _ _
  · obtain ⟨k, hk, e⟩ := List.mem_map.mp hx
    rw [← e]
    have := ltr_le (basesOf (qD s) (qL s) (rowsOf (qD s) (qS s) (qF s))) k
    have hb : (basesOf (qD s) (qL s) (rowsOf (qD s) (qS s) (qF s))).length = (rowsOf (qD s) (qS s) (qF s)).length := List.length_map _
    omega
  · have := lacks_len (qD s) (rowsOf (qD s) (qS s) (qF s))
    show (lacksOf (qD s) (rowsOf (qD s) (qS s) (qF s))).length ≤ 96
    omega
  · have hx : x ∈ lacksOf (qD s) (rowsOf (qD s) (qS s) (qF s)) := hx
    obtain ⟨e, he, hx⟩ := List.mem_flatMap.mp hx
    have h8 := (lck_ok (D := qD s) (e := e)).2 x hx
    have := hL.2 e he
    omega
theorem SK_out {s : ST} {l : List Int} (h : SK s) (hl : l.length ≤ 1000) : SK (wOut s l) := by
  obtain ⟨h1, h2, h3, h4, h5, h6, h7⟩ := h
  exact ⟨h1, h2, h3, h4, h5, h6, hl⟩
theorem head_len (n : Nat) : (head n).length ≤ 15 := by
  have h1 := tx_l.2.2.2.2.2
  have h2 := nmb_len (x := n)
  unfold head
  rw [List.length_append, List.length_append]
  show _ + _ + 1 ≤ 15
  omega
theorem SK11 {s : ST} {i : Int} (h : SK s) : SK (x11 s i).2.2 := by
  unfold x11
  split
  · exact h
  · split
    · have := head_len (oR (qR s)).length
      exact SK_out h (by omega)
    · split
      · next q =>
        refine SK_out h (h.2.2.2.2.2.1.2.2.2.2.1 _ (mem_gD ?_))
        rw [h.2.2.2.2.2.1.2.2.2.1]
        omega
      · exact h
theorem SK_st0 : SK st0 := by
  refine ⟨⟨by decide, fun e he => absurd he (Nat.not_lt_zero _), fun e => ⟨Nat.zero_le _, fun x hx => (by cases hx)⟩, fun e f => ⟨Nat.zero_le _, fun x hx => (by cases hx)⟩, fun e _ => ⟨rfl, fun _ => rfl, rfl⟩, fun e o h => (by cases h), fun e => trivial⟩, ⟨List.nodup_nil, fun x hx => (by cases hx)⟩, by decide, by decide, by decide, ⟨Nat.zero_le _, fun x hx => (by cases hx), rfl, rfl, fun x hx => (by cases hx), fun x hx => (by cases hx), Nat.zero_le _, fun x hx => (by cases hx), fun _ => rfl⟩, Nat.zero_le _⟩
