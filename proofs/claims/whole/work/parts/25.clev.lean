/-! THE CLASS'S LEVEL: a state has a bound on what is used, kinds, ints and references of objects and arrays, the characters of each Text, the elements of each ArrayList; the arrays behind Texts and lists are hidden (kind 0) -/
abbrev CS : Type := Nat × (Nat → Nat) × (Nat → Int → Int) × (Nat → Int → Option Nat) × (Nat → List Int) × (Nat → List Nat)
def yU (c : CS) : Nat := c.1
def yK (c : CS) : Nat → Nat := c.2.1
def yI (c : CS) : Nat → Int → Int := c.2.2.1
def yP (c : CS) : Nat → Int → Option Nat := c.2.2.2.1
def yT (c : CS) : Nat → List Int := c.2.2.2.2.1
def yE (c : CS) : Nat → List Nat := c.2.2.2.2.2
def wU (c : CS) (n : Nat) : CS := (n, yK c, yI c, yP c, yT c, yE c)
def wI (c : CS) (a : Nat) (j x : Int) : CS := (yU c, yK c, fun b i => if b = a ∧ i = j then x else yI c b i, yP c, yT c, yE c)
def wP (c : CS) (a : Nat) (j : Int) (q : Option Nat) : CS := (yU c, yK c, yI c, fun b i => if b = a ∧ i = j then q else yP c b i, yT c, yE c)
def wT (c : CS) (a : Nat) (l : List Int) : CS := (yU c, yK c, yI c, yP c, fun b => if b = a then l else yT c b, yE c)
def wE (c : CS) (a : Nat) (l : List Nat) : CS := (yU c, yK c, yI c, yP c, yT c, fun b => if b = a then l else yE c b)
/-- a new object or array (n: its length) of a kind, at b -/
def wN (c : CS) (b κ : Nat) (n : Int) (cost : Nat) : CS := (yU c + cost, fun a => if a = b then κ else yK c a, fun a i => if a = b then (if i = -1 then n else 0) else yI c a i, fun a i => if a = b then none else yP c a i, fun a => if a = b then [] else yT c a, fun a => if a = b then [] else yE c a)
def Sm (σ τ : PS) (a : Nat) : Prop := zK τ a = zK σ a ∧ zL τ a = zL σ a ∧ zI τ a = zI σ a ∧ zP τ a = zP σ a
theorem Sm.rfl {σ : PS} {a : Nat} : Sm σ σ a := ⟨by rfl, by rfl, by rfl, by rfl⟩
theorem Sm.trans {σ τ ρ : PS} {a : Nat} (h : Sm σ τ a) (h' : Sm τ ρ a) : Sm σ ρ a := ⟨h'.1.trans h.1, h'.2.1.trans h.2.1, h'.2.2.1.trans h.2.2.1, h'.2.2.2.trans h.2.2.2⟩
/-! credit: a Text has paid for its growth, a list for its elements -/
def sumN (f : Nat → Nat) : Nat → Nat
  | 0 => 0
  | n + 1 => sumN f n + f n
theorem sumN_congr {f f' : Nat → Nat} : ∀ {n : Nat}, (∀ a, a < n → f' a = f a) → sumN f' n = sumN f n
  | 0, _ => rfl
  | n + 1, h => by
    show sumN f' n + f' n = sumN f n + f n
    rw [sumN_congr (fun a ha => h a (by omega)), h n (by omega)]
theorem sumN_upd {f f' : Nat → Nat} {a : Nat} : ∀ {n : Nat}, a < n → (∀ b, b < n → ¬ b = a → f' b = f b) → sumN f' n + f a = sumN f n + f' a
  | 0, h, _ => by omega
  | n + 1, h, hf => by
    show sumN f' n + f' n + f a = sumN f n + f n + f' a
    by_cases e : a = n
    · subst e
      rw [sumN_congr (fun b hb => hf b (by omega) (by omega))]
      omega
    · have h1 := sumN_upd (n := n) (by omega) (fun b hb => hf b (by omega))
      have h2 := hf n (by omega) (by omega)
      omega
theorem sumN_le {f : Nat → Nat} {a : Nat} : ∀ {n : Nat}, a < n → f a ≤ sumN f n
  | 0, h => by omega
  | n + 1, h => by
    show f a ≤ sumN f n + f n
    by_cases e : a = n
    · subst e; omega
    · have := sumN_le (f := f) (n := n) (a := a) (by omega)
      omega
def crd (σ : PS) (a : Nat) : Nat :=
  if zK σ a = 7 then (match zP σ a 0 with | some b => 2048 - zL σ b | none => 0)
  else if zK σ a = 1 then 120 * (64 - (zI σ a 2).toNatClampNeg) else 0
def pot (σ : PS) : Nat := sumN (crd σ) (zN σ)
def tx (j : Nat) : List Int := (sBs.getD j []).map Int32.toInt
def TxR (O : Nat → Prop) (σ : PS) (c : CS) (a : Nat) (l : List Int) : Prop :=
  ∃ b, zP σ a 0 = some b ∧ (O b ∧ b < zN σ ∧ zK σ b = 102 ∧ yK c b = 0) ∧ (8 ≤ zL σ b ∧ zL σ b ≤ 2048 ∧ l.length ≤ zL σ b) ∧ zI σ a 1 = iI l.length ∧
    ∀ i : Nat, i < l.length → zI σ b i = iI (l.getD i 0) ∧ 0 ≤ l.getD i 0 ∧ l.getD i 0 ≤ 65535
def LsR (g : Nat → Nat) (O : Nat → Prop) (σ : PS) (c : CS) (a : Nat) (l : List Nat) : Prop :=
  ∃ b, zP σ a 1 = some b ∧ (b = g 1 ∨ (O b ∧ b < zN σ ∧ zK σ b = 104 ∧ yK c b = 0)) ∧ (zL σ b ≤ 96 ∧ l.length ≤ zL σ b ∧ l.length ≤ 64 ∧ (b = g 1 ∨ 1 ≤ zL σ b)) ∧ zI σ a 2 = iI l.length ∧
    ∀ i : Nat, i < l.length → zP σ b i = some (l.getD i 0) ∧ 1 ≤ zK σ (l.getD i 0) ∧ zK σ (l.getD i 0) ≤ 9
def EnC (g : Nat → Nat) (O : Nat → Prop) (σ : PS) : Prop :=
  (¬ O (g 0) ∧ g 0 < zN σ ∧ zK σ (g 0) = 1002 ∧ zL σ (g 0) = 20 ∧ ∀ i, i < 20 → zI σ (g 0) i = need i) ∧
  (¬ O (g 1) ∧ g 1 < zN σ ∧ zK σ (g 1) = 1003 ∧ zL σ (g 1) = 0) ∧
  ∀ j, j < 10 → (¬ O (g (100 + j)) ∧ g (100 + j) < zN σ ∧ zK σ (g (100 + j)) = 1000 ∧ zP σ (g (100 + j)) 0 = some (g (200 + j)) ∧ zI σ (g (100 + j)) 1 = 0) ∧
    (¬ O (g (200 + j)) ∧ g (200 + j) < zN σ ∧ zK σ (g (200 + j)) = 1001 ∧ zL σ (g (200 + j)) = sLen j ∧ ∀ i, i < sLen j → zI σ (g (200 + j)) i = sByt j i)
def plK (κ : Nat) : Prop := ¬ κ = 0 ∧ ¬ κ = 1 ∧ ¬ κ = 7
/-- the pure state holds the class's state; O: the addresses that are the class's -/
def CI (g : Nat → Nat) (O : Nat → Prop) (σ : PS) (c : CS) : Prop :=
  (zS σ + 2 * pot σ ≤ yU c ∧ 8 * zN σ + pot σ ≤ yU c) ∧
  (∀ a j, -2147483648 ≤ yI c a j ∧ yI c a j ≤ 2147483647) ∧
  (∀ a, ¬ yK c a = 0 → O a ∧ a < zN σ ∧ zK σ a = yK c a) ∧
  (∀ a, yK c a = 7 → TxR O σ c a (yT c a)) ∧
  (∀ a, yK c a = 1 → LsR g O σ c a (yE c a)) ∧
  (∀ a, plK (yK c a) → (∀ j : Nat, zI σ a j = iI (yI c a j) ∧ zP σ a j = yP c a j) ∧ (yK c a = 101 ∨ yK c a = 103 → (zL σ a : Int) = yI c a (-1))) ∧
  (∀ a a' b, yK c a = 7 → yK c a' = 7 → zP σ a 0 = some b → zP σ a' 0 = some b → a = a') ∧
  (∀ a a' b, yK c a = 1 → yK c a' = 1 → zP σ a 1 = some b → zP σ a' 1 = some b → b = g 1 ∨ a = a') ∧
  EnC g O σ ∧ (∀ a, zN σ ≤ a → O a) ∧ (∀ a b, zK σ a = 7 → zP σ a 0 = some b → b < zN σ)
/-- what else is kept -/
def CF (O : Nat → Prop) (σ τ : PS) : Prop := (∀ a, a < zN σ → ¬ O a → Sm σ τ a) ∧ zN σ ≤ zN τ
theorem CF.rfl {O : Nat → Prop} {σ : PS} : CF O σ σ := ⟨fun _ _ _ => Sm.rfl, Nat.le_refl _⟩
theorem CF.trans {O : Nat → Prop} {σ τ ρ : PS} (h : CF O σ τ) (h' : CF O τ ρ) : CF O σ ρ := ⟨fun a ha hO => (h.1 a ha hO).trans (h'.1 a (Nat.lt_of_lt_of_le ha h.2) hO), Nat.le_trans h.2 h'.2⟩
def CW (g : Nat → Nat) (B : Nat) (O : Nat → Prop) (k pc : Nat) (ls : LV) (st : List Value) (c : CS) (Q : Rs → CS → Prop) : Prop :=
  yU c ≤ B → ∀ σ, CI g O σ c → WP g (B / 8) B k pc ls st σ (fun r τ => ∃ d, yU d ≤ B ∧ CI g O τ d ∧ CF O σ τ ∧ Q r d)
def CK (g : Nat → Nat) (B : Nat) (O : Nat → Prop) (k pc : Nat) (ls : LV) (st : List Value) (Q : Rs → CS → Prop) (th : Bool) : Rs → CS → Prop := fun r d => match r with
  | Sum.inl z => CW g B O k pc ls (z.toList ++ st) d Q
  | Sum.inr j => th = true ∧ Q (Sum.inr j) d
theorem EnC.kept {g : Nat → Nat} {O : Nat → Prop} {σ τ : PS} (h : EnC g O σ) (hF : CF O σ τ) : EnC g O τ := by
  obtain ⟨⟨a1, a2, a3, a4, a5⟩, ⟨b1, b2, b3, b4⟩, h3⟩ := h
  refine ⟨?_, ?_, fun j hj => ?_⟩
  · obtain ⟨e1, e2, e3, e4⟩ := hF.1 _ a2 a1
    exact ⟨a1, Nat.lt_of_lt_of_le a2 hF.2, e1.trans a3, e2.trans a4, fun i hi => by rw [e3]; exact a5 i hi⟩
  · obtain ⟨e1, e2, e3, e4⟩ := hF.1 _ b2 b1
    exact ⟨b1, Nat.lt_of_lt_of_le b2 hF.2, e1.trans b3, e2.trans b4⟩
  · obtain ⟨⟨c1, c2, c3, c4, c5⟩, d1, d2, d3, d4, d5⟩ := h3 j hj
    obtain ⟨e1, e2, e3, e4⟩ := hF.1 _ c2 c1
    obtain ⟨f1, f2, f3, f4⟩ := hF.1 _ d2 d1
    exact ⟨⟨c1, Nat.lt_of_lt_of_le c2 hF.2, e1.trans c3, by rw [e4]; exact c4, by rw [e3]; exact c5⟩, d1, Nat.lt_of_lt_of_le d2 hF.2, f1.trans d3, f2.trans d4, fun i hi => by rw [f3]; exact d5 i hi⟩
theorem crd_le_pot {σ : PS} {a : Nat} (h : a < zN σ) : crd σ a ≤ pot σ := sumN_le h
/-- credit where nothing of Texts and lists has changed -/
theorem pot_same {σ τ : PS} (hN : zN τ = zN σ) (h : ∀ a, a < zN σ → crd τ a = crd σ a) : pot τ = pot σ := by
  unfold pot
  rw [hN]
  exact sumN_congr h
theorem pot_new {σ τ : PS} (hN : zN τ = zN σ + 1) (h : ∀ a, a < zN σ → crd τ a = crd σ a) : pot τ = pot σ + crd τ (zN σ) := by
  unfold pot
  rw [hN]
  show sumN _ _ + _ = _
  rw [sumN_congr h]
theorem crd_of {σ τ : PS} {a : Nat} (hK : zK τ a = zK σ a) (h7 : zK σ a = 7 → zP τ a 0 = zP σ a 0 ∧ ∀ b, zP σ a 0 = some b → zL τ b = zL σ b) (h1 : zK σ a = 1 → zI τ a 2 = zI σ a 2) : crd τ a = crd σ a := by
  unfold crd
  rw [hK]
  split
  · next e =>
    obtain ⟨q1, q2⟩ := h7 e
    rw [q1]
    cases hp : zP σ a 0 with
    | none => rfl
    | some b => dsimp only; rw [q2 b hp]
  · split
    · next e => rw [h1 e]
    · rfl
/-- how a state's change keeps what is said of Texts and lists that it does not touch -/
theorem TxR.kept {O : Nat → Prop} {σ τ : PS} {c d : CS} {a : Nat} {l : List Int} (h : TxR O σ c a l) (ha : Sm σ τ a) (hN : zN σ ≤ zN τ) (hb : ∀ b, zP σ a 0 = some b → Sm σ τ b ∧ yK d b = 0) : TxR O τ d a l := by
  obtain ⟨b, h1, ⟨h2, h3, h4, h5⟩, h6, h7, h8⟩ := h
  obtain ⟨⟨e1, e2, e3, e4⟩, e5⟩ := hb b h1
  refine ⟨b, by rw [ha.2.2.2]; exact h1, ⟨h2, Nat.lt_of_lt_of_le h3 hN, e1.trans h4, e5⟩, by rw [e2]; exact h6, by rw [ha.2.2.1]; exact h7, fun i hi => by rw [e3]; exact h8 i hi⟩
theorem LsR.kept {g : Nat → Nat} {O : Nat → Prop} {σ τ : PS} {c d : CS} {a : Nat} {l : List Nat} (h : LsR g O σ c a l) (ha : Sm σ τ a) (hN : zN σ ≤ zN τ) (hb : ∀ b, zP σ a 1 = some b → Sm σ τ b ∧ (b = g 1 ∨ yK d b = 0)) (hK : ∀ x, 1 ≤ zK σ x → zK σ x ≤ 9 → zK τ x = zK σ x) : LsR g O τ d a l := by
  obtain ⟨b, h1, h2, h6, h7, h8⟩ := h
  obtain ⟨⟨e1, e2, e3, e4⟩, e5⟩ := hb b h1
  refine ⟨b, by rw [ha.2.2.2]; exact h1, ?_, by rw [e2]; exact h6, by rw [ha.2.2.1]; exact h7, fun i hi => ?_⟩
  · rcases h2 with q | ⟨q1, q2, q3, q4⟩
    · exact Or.inl q
    · rcases e5 with e | e
      · exact Or.inl e
      · exact Or.inr ⟨q1, Nat.lt_of_lt_of_le q2 hN, e1.trans q3, e⟩
  · obtain ⟨q1, q2, q3⟩ := h8 i hi
    rw [e4, hK _ q2 q3]
    exact ⟨q1, q2, q3⟩
