/-! READING PERSONS: words are places from where to where -/
abbrev Wd : Type := Nat × Nat
def psh (a i : Nat) (W : List Wd) : List Wd := if a < i then W ++ [(a, i)] else W
/-- where the word began, the words, how many before the first comma -/
abbrev SS : Type := Nat × List Wd × Option Nat
def fcm (B : Option Nat) (n : Nat) : Option Nat := match B with | none => some n | some b => some b
def sp (t : List Int) (s : SS) (i : Nat) : SS :=
  if t.getD i 0 = 32 then (i + 1, psh s.1 i s.2.1, s.2.2)
  else if t.getD i 0 = 44 then (i + 1, psh s.1 i s.2.1, fcm s.2.2 (psh s.1 i s.2.1).length)
  else s
def scF (t : List Int) (s : SS) (i : Nat) : Nat → SS
  | 0 => s
  | n + 1 => sp t (scF t s i n) (i + n)
theorem scF_add (t : List Int) (s : SS) (i n : Nat) : ∀ m, scF t (scF t s i n) (i + n) m = scF t s i (n + m)
  | 0 => rfl
  | m + 1 => by
    show sp t (scF t (scF t s i n) (i + n) m) (i + n + m) = sp t (scF t s i (n + m)) (i + (n + m))
    rw [scF_add t s i n m, Nat.add_assoc]
def scn (t : List Int) (f n : Nat) : SS := scF t (f, [], none) f n
theorem scn_z (t : List Int) (f : Nat) : scn t f 0 = (f, [], none) := rfl
theorem scn_s (t : List Int) (f n : Nat) : scn t f (n + 1) = sp t (scn t f n) (f + n) := rfl
/-- the words of a person's text, from f to e -/
def rgW (t : List Int) (f e : Nat) : List Wd := psh (scn t f (e - f)).1 e (scn t f (e - f)).2.1
def rgB (t : List Int) (f e : Nat) : Option Nat := (scn t f (e - f)).2.2
theorem psh_len {a i : Nat} {W : List Wd} : (psh a i W).length = W.length + if a < i then 1 else 0 := by
  unfold psh
  split
  · rw [List.length_append]; rfl
  · rfl
theorem psh_mem {a i : Nat} {W : List Wd} {w : Wd} (h : w ∈ psh a i W) : w ∈ W ∨ (a < i ∧ w = (a, i)) := by
  unfold psh at h
  split at h
  · rcases List.mem_append.mp h with q | q
    · exact Or.inl q
    · exact Or.inr ⟨by assumption, List.mem_singleton.mp q⟩
  · exact Or.inl h
/-- characters of words, one more for each -/
def wp (W : List Wd) : Nat := (W.map (fun w => w.2 - w.1 + 1)).sum
theorem wp_app (a b : List Wd) : wp (a ++ b) = wp a + wp b := by
  unfold wp
  rw [List.map_append, List.sum_append]
theorem wp_one (w : Wd) : wp [w] = w.2 - w.1 + 1 := by simp [wp]
theorem sp_o {t : List Int} {s : SS} {i : Nat} (h : ¬ t.getD i 0 = 32) (h' : ¬ t.getD i 0 = 44) : sp t s i = s := by
  unfold sp
  rw [if_neg h, if_neg h']
theorem sp_b {t : List Int} {s : SS} {i : Nat} (h : t.getD i 0 = 32) : sp t s i = (i + 1, psh s.1 i s.2.1, s.2.2) := by
  unfold sp
  rw [if_pos h]
theorem sp_c {t : List Int} {s : SS} {i : Nat} (h : t.getD i 0 = 44) : sp t s i = (i + 1, psh s.1 i s.2.1, fcm s.2.2 (psh s.1 i s.2.1).length) := by
  unfold sp
  rw [if_neg (by omega), if_pos h]
/-- what holds of a state that reading from f on has come to, before place i -/
def SOK (f i : Nat) (s : SS) : Prop := (f + 2 * s.2.1.length ≤ s.1 ∧ f + wp s.2.1 ≤ s.1) ∧ s.1 ≤ i ∧ (∀ w, w ∈ s.2.1 → f ≤ w.1 ∧ w.1 < w.2 ∧ w.2 ≤ i) ∧ (∀ m, s.2.2 = some m → m ≤ s.2.1.length)
theorem psh_ok {f i : Nat} {s : SS} (h : SOK f i s) : (f + 2 * (psh s.1 i s.2.1).length ≤ i + 1 ∧ f + wp (psh s.1 i s.2.1) ≤ i + 1) ∧ (∀ w, w ∈ psh s.1 i s.2.1 → f ≤ w.1 ∧ w.1 < w.2 ∧ w.2 ≤ i) ∧ (s.2.1.length ≤ (psh s.1 i s.2.1).length) := by
  obtain ⟨h1, h2, h3, h4⟩ := h
  refine ⟨?_, fun w hw => ?_, ?_⟩
  · rw [psh_len]
    unfold psh
    split
    · rw [wp_app, wp_one]
      dsimp only
      omega
    · omega
  · rcases psh_mem hw with q | ⟨q, q'⟩
    · exact h3 w q
    · rw [q']
      exact ⟨by show f ≤ s.1; omega, q, Nat.le_refl _⟩
  · rw [psh_len]
    omega
theorem sp_ok {t : List Int} {f i : Nat} {s : SS} (h : SOK f i s) : SOK f (i + 1) (sp t s i) := by
  have hp := psh_ok h
  obtain ⟨h1, h2, h3, h4⟩ := h
  by_cases q : t.getD i 0 = 32
  · rw [sp_b q]
    refine ⟨hp.1, Nat.le_refl _, fun w hw => ?_, fun m hm => ?_⟩
    · have := hp.2.1 w hw
      omega
    · have := h4 m hm
      have := hp.2.2
      show m ≤ (psh s.1 i s.2.1).length
      omega
  · by_cases q2 : t.getD i 0 = 44
    · rw [sp_c q2]
      refine ⟨hp.1, Nat.le_refl _, fun w hw => ?_, fun m hm => ?_⟩
      · have := hp.2.1 w hw
        omega
      · have hm : fcm s.2.2 (psh s.1 i s.2.1).length = some m := hm
        show m ≤ (psh s.1 i s.2.1).length
        cases hb : s.2.2 with
        | none => rw [hb] at hm; cases hm; exact Nat.le_refl _
        | some b =>
          rw [hb] at hm
          cases hm
          have := h4 m hb
          have := hp.2.2
          omega
    · rw [sp_o q q2]
      exact ⟨h1, by omega, fun w hw => by have := h3 w hw; omega, h4⟩
theorem scn_ok (t : List Int) (f : Nat) : ∀ n, SOK f (f + n) (scn t f n)
  | 0 => ⟨⟨Nat.le_refl _, Nat.le_refl _⟩, Nat.le_refl _, fun w hw => (by cases hw), fun m hm => (by cases hm)⟩
  | n + 1 => sp_ok (scn_ok t f n)
theorem scn_ok' {t : List Int} {f i : Nat} (h : f ≤ i) : SOK f i (scn t f (i - f)) := by
  have := scn_ok t f (i - f)
  rw [show f + (i - f) = i by omega] at this
  exact this
theorem rg_ok {t : List Int} {f e : Nat} (h : f ≤ e) : (f + 2 * (rgW t f e).length ≤ e + 1 ∧ f + wp (rgW t f e) ≤ e + 1) ∧ (∀ w, w ∈ rgW t f e → f ≤ w.1 ∧ w.1 < w.2 ∧ w.2 ≤ e) ∧ ∀ m, rgB t f e = some m → m ≤ (rgW t f e).length := by
  have h1 := scn_ok' (t := t) h
  have h2 := psh_ok h1
  refine ⟨h2.1, h2.2.1, fun m hm => ?_⟩
  have h3 : m ≤ (scn t f (e - f)).2.1.length := h1.2.2.2 m hm
  have h4 : (scn t f (e - f)).2.1.length ≤ (rgW t f e).length := h2.2.2
  omega
/-! words that are "and" part persons -/
abbrev isA (t : List Int) (f e : Nat) : Prop := e = f + 3 ∧ t.getD f 0 = 97 ∧ t.getD (f + 1) 0 = 110 ∧ t.getD (f + 2) 0 = 100
/-- where the word began, where the person's text began, the texts of persons before -/
abbrev AS : Type := Nat × Nat × List Wd
def ap (t : List Int) (s : AS) (i : Nat) : AS := if isA t s.1 i then (i + 1, i, s.2.2 ++ [(s.2.1, s.1)]) else (i + 1, s.2.1, s.2.2)
def asn (t : List Int) : Nat → AS
  | 0 => (0, 0, [])
  | i + 1 => if t.getD i 0 = 32 then ap t (asn t i) i else asn t i
def regs (t : List Int) : List Wd := (ap t (asn t t.length) t.length).2.2 ++ [((ap t (asn t t.length) t.length).2.1, t.length)]
/-- first place from k on, of n, with P -/
def fst' (P : Nat → Bool) : Nat → Nat → Nat
  | 0, k => k
  | n + 1, k => if P k = true then k else fst' P n (k + 1)
theorem fst_uniq {P : Nat → Bool} : ∀ {n k r : Nat}, k ≤ r → r ≤ k + n → (∀ j, k ≤ j → j < r → ¬ P j = true) → (r = k + n ∨ P r = true) → fst' P n k = r
  | 0, k, r, h1, h2, _, _ => by
    show k = r
    omega
  | n + 1, k, r, h1, h2, h3, h4 => by
    show (if P k = true then k else fst' P n (k + 1)) = r
    by_cases e : k = r
    · subst e
      rw [if_pos (h4.resolve_left (by omega))]
    · rw [if_neg (h3 k (Nat.le_refl _) (by omega))]
      exact fst_uniq (by omega) (by omega) (fun j q1 q2 => h3 j (by omega) q2) (h4.imp (fun q => by omega) id)
theorem fst_le {P : Nat → Bool} : ∀ {n k : Nat}, k ≤ fst' P n k ∧ fst' P n k ≤ k + n
  | 0, k => ⟨Nat.le_refl _, Nat.le_refl _⟩
  | n + 1, k => by
    show k ≤ (if P k = true then k else fst' P n (k + 1)) ∧ (if P k = true then k else fst' P n (k + 1)) ≤ k + (n + 1)
    have := fst_le (P := P) (n := n) (k := k + 1)
    split <;> omega
/-- back from c to a while not P -/
def bck (P : Nat → Bool) (a : Nat) : Nat → Nat
  | 0 => 0
  | c + 1 => if a < c + 1 ∧ ¬ P c = true then bck P a c else c + 1
theorem bck_uniq {P : Nat → Bool} {a : Nat} : ∀ {c r : Nat}, a ≤ r → r ≤ c → (∀ j, r ≤ j → j < c → ¬ P j = true) → (r = a ∨ (0 < r ∧ P (r - 1) = true)) → bck P a c = r
  | 0, r, h1, h2, _, _ => by
    show 0 = r
    omega
  | c + 1, r, h1, h2, h3, h4 => by
    show (if a < c + 1 ∧ ¬ P c = true then bck P a c else c + 1) = r
    by_cases e : c + 1 = r
    · rw [if_neg (fun q => by
        rcases h4 with s | s
        · omega
        · have : r - 1 = c := by omega
          rw [this] at s
          exact q.2 s.2)]
      exact e
    · rw [if_pos ⟨by omega, h3 c (by omega) (by omega)⟩]
      exact bck_uniq h1 (by omega) (fun j q1 q2 => h3 j q1 (by omega)) h4
theorem bck_le {P : Nat → Bool} {a : Nat} : ∀ {c : Nat}, a ≤ c → a ≤ bck P a c ∧ bck P a c ≤ c
  | 0, h => ⟨h, Nat.le_refl _⟩
  | c + 1, h => by
    show a ≤ (if a < c + 1 ∧ ¬ P c = true then bck P a c else c + 1) ∧ (if a < c + 1 ∧ ¬ P c = true then bck P a c else c + 1) ≤ c + 1
    split
    · next q =>
      have := bck_le (P := P) (a := a) (c := c) (by omega)
      omega
    · omega
/-- begins with a small letter -/
def smB (x : Int) : Bool := decide ((97 ≤ x ∧ x ≤ 122) ∨ 222 < x)
theorem smB_iff {x : Int} : smB x = true ↔ smc x := decide_eq_true_iff
def smW (t : List Int) (W : List Wd) (k : Nat) : Bool := smB (t.getD (W.getD k (0, 0)).1 0)
/-- given from, to; particle from; family from, to -/
abbrev P5 : Type := Nat × Nat × Nat × Nat × Nat
def p5 (t : List Int) (W : List Wd) (B : Option Nat) : P5 := match B with
  | some m => (m, W.length, 0, fst' (fun k => !smW t W k) (m - 1) 0, m)
  | none => (0, fst' (smW t W) (W.length - 1) 0, fst' (smW t W) (W.length - 1) 0, bck (smW t W) (fst' (smW t W) (W.length - 1) 0) (W.length - 1), W.length)
def sh5 (n : Nat) (x : P5) : P5 := (n + x.1, n + x.2.1, n + x.2.2.1, n + x.2.2.2.1, n + x.2.2.2.2)
/-- all words, all persons -/
abbrev PP : Type := List Wd × List P5
def adR (t : List Int) (S : PP) (r : Wd) : PP := if rgW t r.1 r.2 = [] then S else (S.1 ++ rgW t r.1 r.2, S.2 ++ [sh5 S.1.length (p5 t (rgW t r.1 r.2) (rgB t r.1 r.2))])
def ppA (t : List Int) (l : List Wd) : PP := l.foldl (adR t) ([], [])
theorem ppA_snoc (t : List Int) (l : List Wd) (r : Wd) : ppA t (l ++ [r]) = adR t (ppA t l) r := by
  unfold ppA
  rw [List.foldl_append]
  rfl
def ppl (t : List Int) : PP := ppA t (regs t)
/-- what holds of the texts of persons before place i -/
def AOK (t : List Int) (i : Nat) (s : AS) : Prop := s.2.1 ≤ s.1 ∧ s.1 ≤ i ∧ (2 * (ppA t s.2.2).1.length ≤ s.2.1 ∧ wp (ppA t s.2.2).1 ≤ s.2.1) ∧ (∀ w, w ∈ (ppA t s.2.2).1 → w.1 < w.2 ∧ w.2 ≤ i)
theorem adR_len {t : List Int} {S : PP} {r : Wd} : (adR t S r).1 = S.1 ++ rgW t r.1 r.2 := by
  unfold adR
  split
  · next h => rw [h, List.append_nil]
  · rfl
theorem ap_ok {t : List Int} {i : Nat} {s : AS} (h : AOK t i s) : AOK t (i + 1) (ap t s i) := by
  obtain ⟨h1, h2, h3, h4⟩ := h
  unfold ap
  split
  · next q =>
    have hr := rg_ok (t := t) h1
    refine ⟨Nat.le_succ i, Nat.le_refl _, ?_, fun w hw => ?_⟩
    · show 2 * (ppA t (s.2.2 ++ [(s.2.1, s.1)])).1.length ≤ i ∧ wp (ppA t (s.2.2 ++ [(s.2.1, s.1)])).1 ≤ i
      rw [ppA_snoc, adR_len, List.length_append, wp_app]
      have := q.1
      have := hr.1
      dsimp only
      omega
    · have hw : w ∈ (ppA t (s.2.2 ++ [(s.2.1, s.1)])).1 := hw
      rw [ppA_snoc, adR_len] at hw
      rcases List.mem_append.mp hw with q | q
      · have := h4 w q
        omega
      · have := hr.2.1 w q
        omega
  · exact ⟨by show s.2.1 ≤ i + 1; omega, Nat.le_refl _, h3, fun w hw => by have := h4 w hw; omega⟩
theorem AOK.mono {t : List Int} {i j : Nat} {s : AS} (h : AOK t i s) (hj : i ≤ j) : AOK t j s := ⟨h.1, by have := h.2.1; omega, h.2.2.1, fun w hw => by have := h.2.2.2 w hw; omega⟩
theorem asn_ok (t : List Int) : ∀ i, AOK t i (asn t i)
  | 0 => ⟨Nat.le_refl _, Nat.le_refl _, ⟨Nat.le_refl _, Nat.le_refl _⟩, fun w hw => (by cases hw)⟩
  | i + 1 => by
    show AOK t (i + 1) (if t.getD i 0 = 32 then ap t (asn t i) i else asn t i)
    split
    · exact ap_ok (asn_ok t i)
    · exact (asn_ok t i).mono (by omega)
/-- the words' characters -/
def wcs (t : List Int) (W : List Wd) : List (List Int) := W.map (fun w => sl t w.1 w.2)
def slc (ws : List (List Int)) (f t : Nat) : List (List Int) := (ws.take t).drop f
def pn (t : List Int) (p : Nat) : P5 := (ppl t).2.getD p (0, 0, 0, 0, 0)
def np (t : List Int) : Nat := (ppl t).2.length
def gv (t : List Int) (p : Nat) : List (List Int) := slc (wcs t (ppl t).1) (pn t p).1 (pn t p).2.1
def pa (t : List Int) (p : Nat) : List (List Int) := slc (wcs t (ppl t).1) (pn t p).2.2.1 (pn t p).2.2.2.1
def fa (t : List Int) (p : Nat) : List (List Int) := slc (wcs t (ppl t).1) (pn t p).2.2.2.1 (pn t p).2.2.2.2
