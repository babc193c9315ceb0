/-! ENTRIES -/
def EnI (c : CS) (ℓ : LB) (Es : List Nat) (D : Db) (n e : Nat) : Prop := (yK c e = 2 ∧ ℓ e = (e, 0) ∧ yI c e 0 = n ∧ yI c e 1 = dK D n ∧ yP c e 4 = (dX D n).map (fun o => Es.getD o 0)) ∧
  (∃ ky, yP c e 2 = some ky ∧ yK c ky = 7 ∧ ℓ ky = (e, 1) ∧ yT c ky = dY D n) ∧
  ∃ fs, yP c e 3 = some fs ∧ yK c fs = 103 ∧ ℓ fs = (e, 2) ∧ yI c fs (-1) = 8 ∧ ∀ f : Nat, f < 8 → ∃ ft, yP c fs f = some ft ∧ yK c ft = 7 ∧ ℓ ft = (e, 10 + f) ∧ yT c ft = dF D n f
def EI (c : CS) (ℓ : LB) (Es : List Nat) (D : Db) : Prop := Es.length = dN D ∧ ∀ n : Nat, n < dN D → EnI c ℓ Es D n (Es.getD n 0)
theorem EnI.keep {c d : CS} {ℓ ℓ' : LB} {Es : List Nat} {D : Db} {n e : Nat} (h : EnI c ℓ Es D n e) (hl : ∀ a, ¬ yK c a = 0 → ℓ' a = ℓ a) (hk : ∀ a, ¬ yK c a = 0 → (ℓ a).1 = e → Kp c d a) : EnI d ℓ' Es D n e := by
  obtain ⟨⟨a1, a2, a3, a4, a5⟩, ⟨ky, b1, b2, b3, b4⟩, fs, c1, c2, c3, c4, c5⟩ := h
  have ke := hk e (by omega) (by rw [a2])
  have kk := hk ky (by omega) (by rw [b3])
  have kf := hk fs (by omega) (by rw [c3])
  refine ⟨⟨by rw [ke.1]; exact a1, by rw [hl e (by omega)]; exact a2, by rw [ke.2.1]; exact a3, by rw [ke.2.1]; exact a4, by rw [ke.2.2.1]; exact a5⟩, ⟨ky, by rw [ke.2.2.1]; exact b1, by rw [kk.1]; exact b2, by rw [hl ky (by omega)]; exact b3, by rw [kk.2.2.2.1]; exact b4⟩, fs, by rw [ke.2.2.1]; exact c1, by rw [kf.1]; exact c2, by rw [hl fs (by omega)]; exact c3, by rw [kf.2.1]; exact c4, fun f hf => ?_⟩
  obtain ⟨ft, d1, d2, d3, d4⟩ := c5 f hf
  have kt := hk ft (by omega) (by rw [d3])
  exact ⟨ft, by rw [kf.2.2.1]; exact d1, by rw [kt.1]; exact d2, by rw [hl ft (by omega)]; exact d3, by rw [kt.2.2.2.1]; exact d4⟩
/-- an owner that is an entry -/
def EO (c : CS) (ℓ : LB) (o : Nat) : Prop := yK c o = 2 ∧ ℓ o = (o, 0)
theorem EI.keep {c d : CS} {ℓ ℓ' : LB} {Es : List Nat} {D : Db} (h : EI c ℓ Es D) (hl : ∀ a, ¬ yK c a = 0 → ℓ' a = ℓ a) (hk : ∀ a, ¬ yK c a = 0 → EO c ℓ (ℓ a).1 → Kp c d a) : EI d ℓ' Es D :=
  ⟨h.1, fun n hn => (h.2 n hn).keep hl (fun a ha hr => hk a ha (by rw [hr]; exact ⟨(h.2 n hn).1.1, (h.2 n hn).1.2.1⟩))⟩
theorem EI.inj {c : CS} {ℓ : LB} {Es : List Nat} {D : Db} (h : EI c ℓ Es D) {n m : Nat} (hn : n < dN D) (hm : m < dN D) (he : Es.getD n 0 = Es.getD m 0) : n = m := by
  have h1 := (h.2 n hn).1.2.2.1
  have h2 := (h.2 m hm).1.2.2.1
  rw [he, h2] at h1
  omega
/-- the value, as it is found step by step -/
def lv (D : Db) (f : Nat) : Nat → List Int → Option Nat → List Int
  | 0, X, _ => X
  | n + 1, X, H => if f = 1 ∨ ¬ X = [] then X else match H with | none => X | some o => lv D f n (if f = 6 ∧ ¬ dF D o 1 = [] then dF D o 1 else dF D o f) (dX D o)
theorem lv_stop {D : Db} {f : Nat} {X : List Int} {H : Option Nat} (h : ¬ X = []) : ∀ n, lv D f n X H = X
  | 0 => rfl
  | n + 1 => if_pos (Or.inr h)
theorem vl_lv {D : Db} {f : Nat} : ∀ {n e : Nat}, en (dX D) (n + 1) e → vl D (n + 1) e f = lv D f n (dF D e f) (dX D e)
  | 0, e, h => by
    unfold en at h
    show (if ¬ dF D e f = [] then dF D e f else match dX D e with | none => [] | some o => if f = 1 then [] else if f = 6 ∧ ¬ dF D o 1 = [] then dF D o 1 else vl D 0 o f) = dF D e f
    cases hc : dX D e with
    | none =>
      by_cases q : dF D e f = []
      · rw [if_neg (fun r => r q), q]
      · rw [if_pos q]
    | some o => rw [hc] at h; exact h.elim
  | n + 1, e, h => by
    show (if ¬ dF D e f = [] then dF D e f else match dX D e with | none => [] | some o => if f = 1 then [] else if f = 6 ∧ ¬ dF D o 1 = [] then dF D o 1 else vl D (n + 1) o f) = (if f = 1 ∨ ¬ dF D e f = [] then dF D e f else match dX D e with | none => dF D e f | some o => lv D f n (if f = 6 ∧ ¬ dF D o 1 = [] then dF D o 1 else dF D o f) (dX D o))
    by_cases q : dF D e f = []
    · rw [if_neg (fun r => r q)]
      cases hc : dX D e with
      | none =>
        dsimp only
        split
        · exact q.symm
        · exact q.symm
      | some o =>
        have h := (en_c hc).mp h
        dsimp only
        by_cases q1 : f = 1
        · rw [if_pos q1, if_pos (Or.inl q1), q]
        · rw [if_neg q1, if_neg (c := f = 1 ∨ ¬ dF D e f = []) (fun r => r.elim q1 (fun s => s q))]
          by_cases q2 : f = 6 ∧ ¬ dF D o 1 = []
          · rw [if_pos q2, if_pos q2, lv_stop q2.2]
          · rw [if_neg q2, if_neg q2]
            exact vl_lv h
    · rw [if_pos q, if_pos (Or.inr q)]
theorem val_lv {D : Db} (hD : DOK D) (e f : Nat) : val D e f = lv D f 24 (dF D e f) (dX D e) := by
  have h := hD.2.2.2.2.2.2 e
  unfold val
  rw [vl_mono D f 24 25 e h (by omega), vl_lv (en_mono _ h (by omega))]
section CEntry
variable {g : Nat → Nat} {B : Nat} {O : Nat → Prop} {c : CS} {Q : Rs → CS → Prop} {ℓ : LB} {Es : List Nat} {D : Db}
theorem t1 {n f : Nat} (hE : EI c ℓ Es D) (hn : n < dN D) (hf : f < 8) (h : ∀ a, yK c a = 7 → yT c a = dF D n f → ℓ a = (Es.getD n 0, 10 + f) → Q (Sum.inl (some (.ref a))) c) : CW g B O 1 0 [some (.ref (Es.getD n 0)), some (.int (iI f))] [] c Q := by
  obtain ⟨⟨a1, -⟩, -, fs, c1, c2, c3, c4, c5⟩ := hE.2 n hn
  obtain ⟨ft, d1, d2, d3, d4⟩ := c5 f hf
  have e : (f : Int) % 8 = f := by omega
  refine c1_0 ⟨a1, fs, c1, c2, by omega, ft, ?_, h ft d2 d4 d3⟩
  rw [e]; exact d1
theorem t3 {n f : Nat} (hD : DOK D) (hE : EI c ℓ Es D) (hn : n < dN D) (hf : f < 8) (h : ∀ a, yK c a = 7 → yT c a = val D n f → EO c ℓ (ℓ a).1 → Q (Sum.inl (some (.ref a))) c) : CW g B O 3 0 [some (.ref (Es.getD n 0)), some (.int (iI f)), none, none, none, none] [] c Q := by
  have kE : ∀ m, m < dN D → yK c (Es.getD m 0) = 2 := fun m hm => (hE.2 m hm).1.1
  have oE : ∀ m, m < dN D → EO c ℓ (Es.getD m 0) := fun m hm => ⟨(hE.2 m hm).1.1, (hE.2 m hm).1.2.1⟩
  have pX : ∀ m, m < dN D → yP c (Es.getD m 0) 4 = (dX D m).map (fun o => Es.getD o 0) := fun m hm => (hE.2 m hm).1.2.2.2.2
  rw [val_lv hD n f] at h
  have endN : ∀ (X : List Int) (a : Nat) (k : Nat) {l0 l5 : Option Value}, yK c a = 7 → yT c a = X → EO c ℓ (ℓ a).1 → X = lv D f 24 (dF D n f) (dX D n) → k ≤ 24 → CW g B O 3 14 [l0, some (.int (iI f)), some (.ref a), some .null, some (.int (iI k)), l5] [] c Q := fun X a k l0 l5 h1 h2 h3 h4 hk => by
    have fin : ∀ {l1 l3 l4 : Option Value}, CW g B O 3 90 [l0, l1, some (.ref a), l3, l4, l5] [] c Q := fun {l1 l3 l4} => c3_90 (h a h1 (h2.trans h4) h3)
    exact c3_14N ⟨fun _ => fin, fun _ => ⟨fun _ => fin, fun _ => fin⟩⟩
  have loop : ∀ (m k : Nat) (X : List Int) (o a : Nat) {l0 l5 : Option Value}, 24 - k = m → k ≤ 24 → yK c a = 7 → yT c a = X → EO c ℓ (ℓ a).1 → o < dN D → lv D f (24 - k) X (some o) = lv D f 24 (dF D n f) (dX D n) → CW g B O 3 14 [l0, some (.int (iI f)), some (.ref a), some (.ref (Es.getD o 0)), some (.int (iI k)), l5] [] c Q := by
    intro m
    induction m with
    | zero =>
      intro k X o a l0 l5 k1 k2 h1 h2 h3 ho hv
      rw [show 24 - k = 0 by omega] at hv
      exact c3_14R ⟨fun _ => c3_90 (h a h1 (h2.trans hv) h3), fun q => by omega⟩
    | succ m ih =>
      intro k X o a l0 l5 k1 k2 h1 h2 h3 ho hv
      rw [show 24 - k = (24 - (k + 1)) + 1 by omega] at hv
      have hv : (if f = 1 ∨ ¬ X = [] then X else lv D f (24 - (k + 1)) (if f = 6 ∧ ¬ dF D o 1 = [] then dF D o 1 else dF D o f) (dX D o)) = _ := hv
      have go : ∀ (x f' : Nat) {l2 l5 : Option Value}, f' < 8 → X = [] → ¬ f = 1 → dF D o f' = (if f = 6 ∧ ¬ dF D o 1 = [] then dF D o 1 else dF D o f) → CW g B O 3 75 [l0, some (.int (iI f)), l2, some (.ref (Es.getD o 0)), some (.int (iI k)), l5] [.int (iI f'), .ref (Es.getD o 0)] c Q := fun x f' l2 l5 hf' hX hf1 he => by
        rw [if_neg (fun r => r.elim hf1 (fun s => s hX)), ← he] at hv
        refine c3_75R ⟨kE o ho, t1 hE ho hf' (fun b b1 b2 b3 => c3_78R ⟨kE o ho, fun q => ⟨by omega, ?_⟩, fun b4 q => ⟨by omega, ?_⟩⟩)⟩
        · rw [pX o ho] at q
          cases hc : dX D o with
          | none =>
            rw [hc] at hv
            refine endN (dF D o f') b (k + 1) b1 b2 (by rw [b3]; exact oE o ho) ?_ (by omega)
            rw [← hv]
            cases 24 - (k + 1) with
            | zero => rfl
            | succ j =>
              show _ = (if f = 1 ∨ ¬ dF D o f' = [] then dF D o f' else dF D o f')
              split <;> rfl
          | some o' => rw [hc] at q; cases q
        · rw [pX o ho] at q
          cases hc : dX D o with
          | none => rw [hc] at q; cases q
          | some o' =>
            rw [hc] at q hv
            cases q
            exact ih (k + 1) (dF D o f') o' b (by omega) (by omega) b1 b2 (by rw [b3]; exact oE o ho) (hD.2.2.2.2.2.1 o o' hc) hv
      refine c3_14R ⟨fun q => by omega, fun _ => ⟨fun q => c3_90 (h a h1 ?_ h3), fun q => ⟨h1, fun q1 => ⟨fun q2 => c3_61R (c3_62R ⟨fun _ => go 0 f hf ?_ ?_ ?_, fun r => absurd rfl r⟩), fun q2 => ⟨kE o ho, t1 (f := 1) hE ho (by decide) (fun b b1 b2 b3 => c3_51R ⟨b1, fun q3 => c3_61R (c3_62R ⟨fun _ => go 0 f hf ?_ ?_ ?_, fun r => absurd rfl r⟩), fun q3 => c3_62R ⟨fun r => by omega, fun _ => go 0 1 (by decide) ?_ ?_ ?_⟩⟩)⟩⟩, fun q1 => c3_90 (h a h1 ?_ h3)⟩⟩⟩
      · rw [if_pos (Or.inl (by omega))] at hv
        exact h2.trans hv
      · rw [← h2]; exact q1
      · omega
      · rw [if_neg (fun r => q2 (by omega))]
      · rw [← h2]; exact q1
      · omega
      · rw [if_neg (fun r => r.2 (by rw [← b2]; exact q3))]
      · rw [← h2]; exact q1
      · omega
      · rw [if_pos ⟨by omega, by rw [← b2]; exact q3⟩]
      · rw [if_pos (Or.inr (by rw [← h2]; exact q1))] at hv
        exact h2.trans hv
  refine c3_0 ⟨kE n hn, t1 hE hn hf (fun a a1 a2 a3 => c3_5 ⟨kE n hn, fun q => ?_, fun b q => ?_⟩)⟩
  · rw [pX n hn] at q
    cases hc : dX D n with
    | none =>
      refine endN (dF D n f) a 0 a1 a2 (by rw [a3]; exact oE n hn) ?_ (by omega)
      rw [hc]
      show _ = (if f = 1 ∨ ¬ dF D n f = [] then dF D n f else dF D n f)
      split <;> rfl
    | some o => rw [hc] at q; cases q
  · rw [pX n hn] at q
    cases hc : dX D n with
    | none => rw [hc] at q; cases q
    | some o =>
      rw [hc] at q
      cases q
      exact loop _ 0 (dF D n f) o a rfl (by omega) a1 a2 (by rw [a3]; exact oE n hn) (hD.2.2.2.2.2.1 n o hc) (by rw [hc])
theorem t2 {n f : Nat} (hD : DOK D) (hE : EI c ℓ Es D) (hn : n < dN D) (hf : f < 8) (h1 : ¬ val D n f = [] → Q (Sum.inl (some (.int (iI 1)))) c) (h2 : val D n f = [] → Q (Sum.inl (some (.int (iI 0)))) c) : CW g B O 2 0 [some (.ref (Es.getD n 0)), some (.int (iI f))] [] c Q :=
  c2_0 ⟨(hE.2 n hn).1.1, t3 hD hE hn hf (fun a a1 a2 _ => c2_5 ⟨a1, fun q => c2_16 ⟨Or.inl rfl, h2 (by rw [← a2]; exact q)⟩, fun q => c2_16 ⟨Or.inr rfl, h1 (by rw [← a2]; exact q)⟩⟩)⟩
theorem t4 {n m : Nat} (hD : DOK D) (hE : EI c ℓ Es D) (hn : n < dN D) (hm : m < dN D) (h : Q (Sum.inl (some (.int (iI (if lds (dX D) 24 n m = true then 1 else 0))))) c) : CW g B O 4 0 [some (.ref (Es.getD n 0)), some (.ref (Es.getD m 0)), none, none] [] c Q := by
  have kE : ∀ m, m < dN D → yK c (Es.getD m 0) = 2 := fun m hm => (hE.2 m hm).1.1
  have pX : ∀ m, m < dN D → yP c (Es.getD m 0) 4 = (dX D m).map (fun o => Es.getD o 0) := fun m hm => (hE.2 m hm).1.2.2.2.2
  refine c4_0 ?_
  have no : lds (dX D) 24 n m = false → ∀ {l0 l1 l2 l3 : Option Value}, CW g B O 4 32 [l0, l1, l2, l3] [] c Q := fun q l0 l1 l2 l3 => by
    rw [q, if_neg (by decide)] at h
    exact c4_32 h
  have loop : ∀ (j k o : Nat) {l0 : Option Value}, 24 - k = j → k ≤ 24 → o < dN D → lds (dX D) (24 - k) o m = lds (dX D) 24 n m → CW g B O 4 4 [l0, some (.ref (Es.getD m 0)), some (.ref (Es.getD o 0)), some (.int (iI k))] [] c Q := by
    intro j
    induction j with
    | zero =>
      intro k o l0 k1 k2 ho hl
      rw [show 24 - k = 0 by omega] at hl
      exact c4_4R ⟨fun _ => no hl.symm, fun q => by omega⟩
    | succ j ih =>
      intro k o l0 k1 k2 ho hl
      rw [show 24 - k = (24 - (k + 1)) + 1 by omega] at hl
      have hl : (if o = m then true else match dX D o with | none => false | some o' => lds (dX D) (24 - (k + 1)) o' m) = lds (dX D) 24 n m := hl
      refine c4_4R ⟨fun q => by omega, fun _ => ⟨fun q => ⟨kE o ho, fun r => ⟨by omega, ?_⟩, fun b r => ⟨by omega, ?_⟩⟩, fun q => ?_⟩⟩
      · rw [if_neg (fun s => q (by rw [s]))] at hl
        rw [pX o ho] at r
        cases hc : dX D o with
        | none =>
          rw [hc] at hl
          exact c4_4N ⟨fun _ => no hl.symm, fun _ => no hl.symm⟩
        | some o' => rw [hc] at r; cases r
      · rw [if_neg (fun s => q (by rw [s]))] at hl
        rw [pX o ho] at r
        cases hc : dX D o with
        | none => rw [hc] at r; cases r
        | some o' =>
          rw [hc] at r hl
          cases r
          exact ih (k + 1) o' (by omega) (by omega) (hD.2.2.2.2.2.1 o o' hc) hl
      · rw [if_pos (hE.inj ho hm q)] at hl
        rw [← hl, if_pos rfl] at h
        exact h
  exact loop _ 0 n rfl (by omega) hn rfl
end CEntry
