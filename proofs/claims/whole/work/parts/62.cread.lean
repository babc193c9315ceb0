/-! reading in two goes, at the first comma -/
theorem psh_pre {a i : Nat} {V W : List Wd} : psh a i (V ++ W) = V ++ psh a i W := by
  unfold psh
  split
  · rw [List.append_assoc]
  · rfl
theorem scF_pre (t : List Int) (V : List Wd) {s s' : SS} {i : Nat} (h1 : s.1 = s'.1) (h2 : s.2.1 = V ++ s'.2.1) : ∀ n, (scF t s i n).1 = (scF t s' i n).1 ∧ (scF t s i n).2.1 = V ++ (scF t s' i n).2.1
  | 0 => ⟨h1, h2⟩
  | n + 1 => by
    obtain ⟨q1, q2⟩ := scF_pre t V h1 h2 n (i := i)
    show (sp t (scF t s i n) (i + n)).1 = (sp t (scF t s' i n) (i + n)).1 ∧ (sp t (scF t s i n) (i + n)).2.1 = V ++ (sp t (scF t s' i n) (i + n)).2.1
    unfold sp
    split
    · exact ⟨rfl, by show psh _ _ _ = V ++ psh _ _ _; rw [q1, q2, psh_pre]⟩
    · split
      · exact ⟨rfl, by show psh _ _ _ = V ++ psh _ _ _; rw [q1, q2, psh_pre]⟩
      · exact ⟨q1, q2⟩
theorem scF_some (t : List Int) {s : SS} {i m : Nat} (h : s.2.2 = some m) : ∀ n, (scF t s i n).2.2 = some m
  | 0 => h
  | n + 1 => by
    have q := scF_some t h n (i := i)
    show (sp t (scF t s i n) (i + n)).2.2 = some m
    unfold sp
    split
    · exact q
    · split
      · show fcm (scF t s i n).2.2 _ = some m
        rw [q]
        rfl
      · exact q
theorem scn_none {t : List Int} {f : Nat} : ∀ {n : Nat}, (∀ j, f ≤ j → j < f + n → ¬ t.getD j 0 = 44) → (scn t f n).2.2 = none
  | 0, _ => rfl
  | n + 1, h => by
    have q := scn_none (t := t) (f := f) (n := n) (fun j a b => h j a (by omega))
    rw [scn_s]
    unfold sp
    split
    · exact q
    · rw [if_neg (h (f + n) (by omega) (by omega))]
      exact q
/-- at a comma -/
theorem scn_comma {t : List Int} {f m : Nat} (hf : f ≤ m) (hno : ∀ j, f ≤ j → j < m → ¬ t.getD j 0 = 44) (hm : t.getD m 0 = 44) : ∀ n, (scn t f (m + 1 + n - f)).1 = (scn t m (1 + n)).1 ∧ (scn t f (m + 1 + n - f)).2.1 = rgW t f m ++ (scn t m (1 + n)).2.1 ∧ (scn t f (m + 1 + n - f)).2.2 = some (rgW t f m).length := by
  intro n
  have hB : (scn t f (m - f)).2.2 = none := scn_none (fun j a b => hno j a (by omega))
  have e1 : scn t f (m + 1 - f) = (m + 1, rgW t f m, some (rgW t f m).length) := by
    rw [scn_next hf, sp_c hm, hB]
    rfl
  have e2 : scn t m 1 = (m + 1, [], some 0) := by
    show sp t (m, [], none) (m + 0) = _
    rw [Nat.add_zero, sp_c hm]
    show (m + 1, psh m m [], fcm none (psh m m []).length) = _
    rw [psh_self]
    rfl
  have a1 : scn t f (m + 1 + n - f) = scF t (scn t f (m + 1 - f)) (m + 1) n := by
    have := scF_add t (f, [], none) f (m + 1 - f) n
    rw [show f + (m + 1 - f) = m + 1 by omega, show m + 1 - f + n = m + 1 + n - f by omega] at this
    exact this.symm
  have a2 : scn t m (1 + n) = scF t (scn t m 1) (m + 1) n := (scF_add t (m, [], none) m 1 n).symm
  have := scF_pre t (rgW t f m) (s := scn t f (m + 1 - f)) (s' := scn t m 1) (i := m + 1) (by rw [e1, e2]) (by rw [e1, e2, List.append_nil]) n
  rw [a1, a2]
  exact ⟨this.1, this.2, scF_some t (by rw [e1]) n⟩
theorem rg_comma {t : List Int} {f m e : Nat} (hf : f ≤ m) (hme : m < e) (hno : ∀ j, f ≤ j → j < m → ¬ t.getD j 0 = 44) (hm : t.getD m 0 = 44) : rgW t f e = rgW t f m ++ rgW t m e ∧ rgB t f e = some (rgW t f m).length := by
  have h := scn_comma hf hno hm (e - m - 1)
  rw [show m + 1 + (e - m - 1) - f = e - f by omega, show 1 + (e - m - 1) = e - m by omega] at h
  refine ⟨?_, h.2.2⟩
  show psh (scn t f (e - f)).1 e (scn t f (e - f)).2.1 = rgW t f m ++ psh (scn t m (e - m)).1 e (scn t m (e - m)).2.1
  rw [h.1, h.2.1, psh_pre]
/-- while a Persons object reads -/
def RP0 (c : CS) (ℓ : LB) (p st en pl src : Nat) (t : List Int) (W : List Wd) (Ps : List P5) : Prop :=
  (yK c p = 5 ∧ yP c p 0 = some src ∧ yP c p 1 = some st ∧ yP c p 2 = some en ∧ yP c p 4 = some pl) ∧ (yK c src = 7 ∧ yT c src = t ∧ ¬ (ℓ src).1 = p) ∧
  (yK c st = 101 ∧ yI c st (-1) = 40 ∧ ℓ st = (p, 1) ∧ ∀ i : Nat, i < W.length → yI c st i = ((W.getD i (0, 0)).1 : Nat)) ∧
  (yK c en = 101 ∧ yI c en (-1) = 40 ∧ ℓ en = (p, 2) ∧ ∀ i : Nat, i < W.length → yI c en i = ((W.getD i (0, 0)).2 : Nat)) ∧
  (yK c pl = 1 ∧ ℓ pl = (p, 3) ∧ (yE c pl).length ≤ 40 ∧ ∀ i : Nat, i < (yE c pl).length → yK c ((yE c pl).getD i 0) = 4 ∧ ℓ ((yE c pl).getD i 0) = (p, 10 + i)) ∧
  (yI c p 3 = W.length ∧ W.length ≤ 40) ∧ Ps.length ≤ (yE c pl).length ∧ ∀ i : Nat, i < Ps.length → PN c ((yE c pl).getD i 0) (Ps.getD i (0, 0, 0, 0, 0))
def RP (c : CS) (ℓ : LB) (p st en pl src : Nat) (t : List Int) (W : List Wd) (Ps : List P5) : Prop := RP0 c ℓ p st en pl src t W Ps ∧ yI c p 6 = Ps.length
theorem PN.kp {c d : CS} {a : Nat} {x : P5} (h : PN c a x) (k : Kp c d a) : PN d a x := by
  unfold PN at h ⊢
  rw [k.1, k.2.1]
  exact h
theorem drop_gD {α : Type} {l : List α} {f k : Nat} {d : α} : (l.drop f).getD k d = l.getD (f + k) d := by
  rw [List.getD_eq_getElem?_getD, List.getElem?_drop, ← List.getD_eq_getElem?_getD]
def SP (ℓ : LB) (p a : Nat) : Prop := a = p ∨ (ℓ a).1 = p
theorem RP0.pw {c : CS} {ℓ : LB} {p st en pl src : Nat} {t : List Int} {W : List Wd} {Ps : List P5} (h : RP0 c ℓ p st en pl src t W Ps) : PW c p t W := by
  obtain ⟨⟨a1, a2, a3, a4, a5⟩, ⟨b1, b2, b3⟩, ⟨c1, c2, c3, c4⟩, ⟨d1, d2, d3, d4⟩, -, ⟨f1, f2⟩, -⟩ := h
  exact ⟨a1, ⟨src, a2, b1, b2⟩, ⟨st, a3, c1, c2, c4⟩, ⟨en, a4, d1, d2, d4⟩, f1, f2⟩
theorem RP0.push {c : CS} {ℓ : LB} {p st en pl src : Nat} {t : List Int} {W : List Wd} {Ps : List P5} {a b : Nat} (h : RP0 c ℓ p st en pl src t W Ps) (hn : W.length < 40) : RP0 (wI (wI (wI c st W.length a) en W.length b) p 3 ((W.length : Int) + 1)) ℓ p st en pl src t (W ++ [(a, b)]) Ps ∧ yI (wI (wI (wI c st W.length a) en W.length b) p 3 ((W.length : Int) + 1)) p 6 = yI c p 6 ∧ FS (SP ℓ p) ℓ ℓ c (wI (wI (wI c st W.length a) en W.length b) p 3 ((W.length : Int) + 1)) := by
  obtain ⟨⟨a1, a2, a3, a4, a5⟩, ⟨b1, b2, b3⟩, ⟨c1, c2, c3, c4⟩, ⟨d1, d2, d3, d4⟩, ⟨e1, e2, e3, e4⟩, ⟨f1, f2⟩, g1, g2⟩ := h
  have n1 : ¬ p = st := kne a1 c1 (by decide)
  have n2 : ¬ p = en := kne a1 d1 (by decide)
  have n3 : ¬ st = en := lne c3 d3 (by simp)
  have hl : (W ++ [(a, b)]).length = W.length + 1 := List.length_append
  have kS : ∀ x, ¬ x = st → ¬ x = en → ¬ x = p → Kp c (wI (wI (wI c st W.length a) en W.length b) p 3 ((W.length : Int) + 1)) x := fun x q1 q2 q3 => (Kp_wI q1).trans ((Kp_wI q2).trans (Kp_wI q3))
  have i1 : ∀ i : Int, yI (wI (wI (wI c st W.length a) en W.length b) p 3 ((W.length : Int) + 1)) st i = if i = (W.length : Int) then (a : Int) else yI c st i := fun i => by
    rw [yI_wI, if_neg (fun q => n1 q.1.symm), yI_wI, if_neg (fun q => n3 q.1), yI_wI]
    by_cases q : i = (W.length : Int)
    · rw [if_pos ⟨rfl, q⟩, if_pos q]
    · rw [if_neg (fun r => q r.2), if_neg q]
  have i2 : ∀ i : Int, yI (wI (wI (wI c st W.length a) en W.length b) p 3 ((W.length : Int) + 1)) en i = if i = (W.length : Int) then (b : Int) else yI c en i := fun i => by
    rw [yI_wI, if_neg (fun q => n2 q.1.symm), yI_wI]
    by_cases q : i = (W.length : Int)
    · rw [if_pos ⟨rfl, q⟩, if_pos q]
    · rw [if_neg (fun r => q r.2), if_neg q, yI_wI, if_neg (fun q => n3 q.1.symm)]
  have i3 : ∀ i : Int, yI (wI (wI (wI c st W.length a) en W.length b) p 3 ((W.length : Int) + 1)) p i = if i = 3 then (W.length : Int) + 1 else yI c p i := fun i => by
    rw [yI_wI]
    by_cases q : i = 3
    · rw [if_pos ⟨rfl, q⟩, if_pos q]
    · rw [if_neg (fun r => q r.2), if_neg q, yI_wI, if_neg (fun q => n2 q.1), yI_wI, if_neg (fun q => n1 q.1)]
  refine ⟨⟨⟨a1, a2, a3, a4, a5⟩, ⟨b1, b2, b3⟩, ⟨c1, ?_, c3, fun i hi => ?_⟩, ⟨d1, ?_, d3, fun i hi => ?_⟩, ⟨e1, e2, e3, e4⟩, ⟨?_, ?_⟩, g1, fun i hi => ?_⟩, ?_, fun x hx => ⟨rfl, rfl⟩, fun x hx hS => kS x ?_ ?_ ?_⟩
  · rw [i1, if_neg (by omega)]; exact c2
  · rw [hl] at hi
    rw [i1]
    by_cases q : i = W.length
    · rw [if_pos (by omega), gD_eq q]
    · rw [if_neg (by omega), gD_lt (by omega)]; exact c4 i (by omega)
  · rw [i2, if_neg (by omega)]; exact d2
  · rw [hl] at hi
    rw [i2]
    by_cases q : i = W.length
    · rw [if_pos (by omega), gD_eq q]
    · rw [if_neg (by omega), gD_lt (by omega)]; exact d4 i (by omega)
  · rw [i3, if_pos rfl, hl]; rfl
  · rw [hl]; omega
  · have hN := g2 i hi
    have hk := e4 i (by omega)
    have k := kS ((yE c pl).getD i 0) (lne hk.2 c3 (by simp; omega)) (lne hk.2 d3 (by simp; omega)) (kne hk.1 a1 (by decide))
    exact hN.kp k
  · rw [i3, if_neg (by decide)]
  · exact fun q => hS (Or.inr (by rw [q, c3]))
  · exact fun q => hS (Or.inr (by rw [q, d3]))
  · exact fun q => hS (Or.inl q)
theorem FS.yU {S : Nat → Prop} {ℓ ℓ' : LB} {c d : CS} (h : FS S ℓ ℓ' c d) (_ : True) : FS S ℓ ℓ' c d := h
theorem SP_same {ℓ ℓ' : LB} {p : Nat} {c d : CS} {S : Nat → Prop} (h : FS S ℓ ℓ' c d) {a : Nat} (ha : ¬ yK c a = 0) : SP ℓ' p a ↔ SP ℓ p a := by
  unfold SP
  rw [(h.1 a ha).2]
/-- chaining frames whose labels have grown -/
theorem FS.then' {ℓ ℓ' ℓ'' : LB} {p : Nat} {c d e : CS} (h : FS (SP ℓ p) ℓ ℓ' c d) (h' : FS (SP ℓ' p) ℓ' ℓ'' d e) : FS (SP ℓ p) ℓ ℓ'' c e := by
  refine ⟨fun a ha => ?_, fun a ha hS => ?_⟩
  · obtain ⟨q1, q2⟩ := h.1 a ha
    obtain ⟨r1, r2⟩ := h'.1 a (by rw [q1]; exact ha)
    exact ⟨r1.trans q1, r2.trans q2⟩
  · obtain ⟨q1, q2⟩ := h.1 a ha
    exact (h.2 a ha hS).trans (h'.2 a (by rw [q1]; exact ha) (fun q => hS ((SP_same h ha).mp q)))
section CRead
variable {g : Nat → Nat} {B : Nat} {O : Nat → Prop} {c : CS} {Q : Rs → CS → Prop} {ℓ : LB} {p st en pl src : Nat} {t : List Int} {W : List Wd} {Ps : List P5}
theorem t21 {f e : Nat} (hK : yK c p = 5) (hs : yP c p 0 = some src) (hk : yK c src = 7) (ht : yT c src = t) (hr : f ≤ 1000 ∧ e ≤ 1000) (h1 : isA t f e → Q (Sum.inl (some (.int (iI 1)))) c) (h2 : ¬ isA t f e → Q (Sum.inl (some (.int (iI 0)))) c) : CW g B O 21 0 [some (.ref p), some (.int (iI f)), some (.int (iI e))] [] c Q := by
  have s0 : sg (yT c src) f = t.getD f 0 := by rw [ht, sg_nat]
  have s1 : sg (yT c src) ((f : Int) + 1) = t.getD (f + 1) 0 := by rw [ht]; exact sg_nat (i := f + 1)
  have s2 : sg (yT c src) ((f : Int) + 2) = t.getD (f + 2) 0 := by rw [ht]; exact sg_nat (i := f + 2)
  have no : ¬ isA t f e → ∀ {l0 l1 l2 : Option Value}, CW g B O 21 54 [l0, l1, l2] [] c Q := fun q l0 l1 l2 => c21_54 (c21_55 ⟨Or.inl rfl, h2 q⟩)
  refine c21_0 ⟨by omega, fun q => no (fun s => q (by have := s.1; omega)), fun q => ⟨hK, src, hs, hk, fun r => no (fun s => r (by rw [s0]; exact s.2.1)), fun r => ⟨hK, src, hs, by omega, hk, fun r2 => no (fun s => r2 (by rw [s1]; exact s.2.2.1)), fun r2 => ⟨hK, src, hs, by omega, hk, fun r3 => no (fun s => r3 (by rw [s2]; exact s.2.2.2)), fun r3 => c21_55 ⟨Or.inr rfl, h1 ⟨by omega, ?_, ?_, ?_⟩⟩⟩⟩⟩⟩
  · rw [← s0]; exact r
  · rw [← s1]; exact r2
  · rw [← s2]; exact r3
/-- the words from one place to another -/
theorem t23 {f e : Nat} (ht : t.length ≤ 80) (hfe : f ≤ e ∧ e ≤ t.length) (hP : RP0 c ℓ p st en pl src t W Ps) (hw : ∀ j, f ≤ j → j ≤ e → (scn t f (j - f)).1 < j → W.length + (scn t f (j - f)).2.1.length < 40)
    (h : ∀ d, RP0 d ℓ p st en pl src t (W ++ rgW t f e) Ps → yI d p 6 = yI c p 6 → FS (SP ℓ p) ℓ ℓ c d → yU d = yU c → Q (Sum.inl none) d) : CW g B O 23 0 [some (.ref p), some (.int (iI f)), some (.int (iI e)), none, none] [] c Q := by
  refine c23_0 ?_
  have loop : ∀ (n i : Nat) (d : CS) {l1 : Option Value}, e - i = n → f ≤ i → i ≤ e → RP0 d ℓ p st en pl src t (W ++ (scn t f (i - f)).2.1) Ps → yI d p 6 = yI c p 6 → FS (SP ℓ p) ℓ ℓ c d → yU d = yU c → CW g B O 23 5 [some (.ref p), l1, some (.int (iI e)), some (.int (iI ((scn t f (i - f)).1 : Nat))), some (.int (iI i))] [] d Q := by
    -- a word ends
    have put : ∀ (i : Nat) (d : CS) {l1 : Option Value}, f ≤ i → i ≤ e → RP0 d ℓ p st en pl src t (W ++ (scn t f (i - f)).2.1) Ps → yI d p 6 = yI c p 6 → FS (SP ℓ p) ℓ ℓ c d → yU d = yU c → (∀ (d' : CS) {l1 : Option Value}, RP0 d' ℓ p st en pl src t (W ++ psh (scn t f (i - f)).1 i (scn t f (i - f)).2.1) Ps → yI d' p 6 = yI c p 6 → FS (SP ℓ p) ℓ ℓ c d' → yU d' = yU c → CW g B O 23 96 [some (.ref p), l1, some (.int (iI e)), some (.int (iI ((i + 1 : Nat) : Int))), some (.int (iI i))] [] d' Q) → CW g B O 23 45 [some (.ref p), l1, some (.int (iI e)), some (.int (iI ((scn t f (i - f)).1 : Nat))), some (.int (iI i))] [] d Q := fun i d l1 i1 i2 hd h6 hF hU hk => by
      have hok := scn_ok' (t := t) i1
      have hwi := hw i i1 i2
      have f3 := hd.2.2.2.2.2.1.1
      have fK := hd.1.1
      refine c23_45 ⟨fun q => c23_91 ⟨by omega, ?_⟩, fun q => ⟨fK, fun q1 => ?_, fun q1 => ?_⟩⟩ (hx3 := by have := hok.2.1; omega)
      · refine hk d ?_ h6 hF hU
        unfold psh
        rw [if_neg (by omega)]
        exact hd
      · rw [f3, List.length_append] at q1
        have := hwi (by omega)
        omega
      · have hlt := hwi (by omega)
        have hl : (W ++ (scn t f (i - f)).2.1).length < 40 := by rw [List.length_append]; omega
        obtain ⟨r1, r2, r3⟩ := hd.push (a := (scn t f (i - f)).1) (b := i) hl
        obtain ⟨⟨a1, a2, a3, a4, a5⟩, -, ⟨c1, c2, c3, c4⟩, ⟨d1, d2, d3, d4⟩, -⟩ := hd
        have n1 : ¬ p = st := kne a1 c1 (by decide)
        have n2 : ¬ p = en := kne a1 d1 (by decide)
        have n3 : ¬ en = st := fun q => by rw [q, c3] at d3; simp at d3
        refine ⟨a1, st, a3, a1, c1, by rw [f3, c2]; omega, fun d7 e7 => ?_⟩
        rw [f3] at e7
        have f37 : yI d7 p 3 = ((W ++ (scn t f (i - f)).2.1).length : Int) := by rw [e7, yI_wI, if_neg (fun q => n1 q.1)]; exact f3
        have k7 : yK d7 = yK d := by rw [e7]; rfl
        have p7 : yP d7 = yP d := by rw [e7]; rfl
        rw [k7, p7, f37]
        refine ⟨a1, en, a4, a1, d1, ?_, fun d13 e13 => ?_⟩
        · rw [e7, yI_wI, if_neg (fun q => n3 q.1), d2]; omega
        · have f313 : yI d13 p 3 = ((W ++ (scn t f (i - f)).2.1).length : Int) := by rw [e13, yI_wI, if_neg (fun q => n2 q.1)]; exact f37
          have k13 : yK d13 = yK d := by rw [e13, yK_wI, k7]
          rw [k13, f313]
          refine ⟨a1, by omega, a1, fun d16 e16 => c23_91 ⟨by omega, ?_⟩⟩
          have e16' : d16 = wI (wI (wI d st ((W ++ (scn t f (i - f)).2.1).length : Int) ((scn t f (i - f)).1 : Nat)) en ((W ++ (scn t f (i - f)).2.1).length : Int) i) p 3 (((W ++ (scn t f (i - f)).2.1).length : Int) + 1) := by rw [e16, e13, e7]
          refine hk d16 ?_ ?_ ?_ ?_
          · rw [e16']
            unfold psh
            rw [if_pos (by omega), ← List.append_assoc]
            exact r1
          · rw [e16', r2]; exact h6
          · rw [e16']; exact hF.then' r3
          · rw [e16']; exact hU
    intro n
    induction n with
    | zero =>
      intro i d l1 i1 i2 i3 hd h6 hF hU
      have hie : i = e := by omega
      subst hie
      have hok := scn_ok' (t := t) i2
      refine c23_5 ⟨fun q => by omega, fun _ => ⟨fun _ => put i d i2 i3 hd h6 hF hU (fun d' l1 r1 r2 r3 r4 => c23_96 ⟨by omega, c23_5 ⟨fun _ => h d' r1 r2 r3 r4, fun q => by omega⟩⟩), fun q => absurd rfl q⟩⟩ (hx3 := by have := hok.2.1; omega)
    | succ n ih =>
      intro i d l1 i1 i2 i3 hd h6 hF hU
      have hok := scn_ok' (t := t) i2
      have hnx := scn_next (t := t) (f := f) (i := i) i2
      obtain ⟨⟨a1, a2, -⟩, ⟨b1, b2, -⟩, -⟩ := hd.1, hd.2.1, trivial
      have esg : sg (yT d src) i = t.getD i 0 := by rw [b2, sg_nat]
      have sep : (scn t f (i + 1 - f)).1 = i + 1 → (scn t f (i + 1 - f)).2.1 = psh (scn t f (i - f)).1 i (scn t f (i - f)).2.1 → CW g B O 23 45 [some (.ref p), l1, some (.int (iI e)), some (.int (iI ((scn t f (i - f)).1 : Nat))), some (.int (iI i))] [] d Q := fun q1 q2 => put i d i2 (by omega) hd h6 hF hU (fun d' l1 r1 r2 r3 r4 => c23_96 ⟨by omega, by
          have := ih (i + 1) d' (l1 := l1) (by omega) (by omega) (by omega) (by rw [q2]; exact r1) r2 r3 r4
          rw [q1] at this
          exact this⟩)
      refine c23_5 ⟨fun q => by omega, fun _ => ⟨fun q => by omega, fun _ => ⟨a1, src, a2, b1, fun q => sep ?_ ?_, fun q => ⟨a1, src, a2, b1, fun q2 => c23_96 ⟨by omega, ?_⟩ (hx3 := by have := hok.2.1; omega), fun q2 => sep ?_ ?_⟩⟩⟩⟩ (hx3 := by have := hok.2.1; omega)
      · rw [esg] at q; rw [hnx, sp_b q]
      · rw [esg] at q; rw [hnx, sp_b q]
      · rw [esg] at q q2
        rw [sp_o q q2] at hnx
        have := ih (i + 1) d (l1 := l1) (by omega) (by omega) (by omega) (by rw [hnx]; exact hd) h6 hF hU
        rw [hnx] at this
        exact this
      · rw [esg] at q2; rw [hnx, sp_c q2]
      · rw [esg] at q2; rw [hnx, sp_c q2]
  have := loop _ f c (l1 := some (.int (iI f))) rfl (Nat.le_refl _) hfe.1 (by rw [Nat.sub_self]; show RP0 c ℓ p st en pl src t (W ++ []) Ps; rw [List.append_nil]; exact hP) rfl FS.rfl rfl
  rw [Nat.sub_self] at this
  exact this
theorem t16 {b : Nat} (hK : yK c b = 4) (h : ∀ d, d = wI (wI (wI (wI (wI c b 0 0) b 1 0) b 2 0) b 3 0) b 4 0 → Q (Sum.inl none) d) : CW g B O 16 0 [some (.ref b)] [] c Q :=
  c16_0 ⟨hK, fun d1 e1 => ⟨by rw [e1]; exact hK, fun d3 e3 => ⟨by rw [e3, e1]; exact hK, fun d5 e5 => ⟨by rw [e5, e3, e1]; exact hK, fun d7 e7 => ⟨by rw [e7, e5, e3, e1]; exact hK, fun d9 e9 => h d9 (by rw [e9, e7, e5, e3, e1])⟩⟩⟩⟩⟩
/-- frame of what is done to one object -/
theorem FS_one {a : Nat} {d : CS} (hK : ∀ x, yK d x = yK c x) (hk : ∀ x, ¬ x = a → Kp c d x) : FS (fun x => x = a) ℓ ℓ c d := ⟨fun x _ => ⟨hK x, rfl⟩, fun x _ hx => hk x hx⟩
/-- what RP0 says stays where its objects stay -/
theorem RP0.keep {d : CS} {ℓ' : LB} (h : RP0 c ℓ p st en pl src t W Ps) (hl : ∀ a, ¬ yK c a = 0 → ℓ' a = ℓ a) (hp : yK d p = 5 ∧ yP d p = yP c p ∧ yI d p 3 = yI c p 3) (hs : Kp c d src) (h1 : Kp c d st) (h2 : Kp c d en) (h3 : Kp c d pl) (h4 : ∀ i : Nat, i < (yE c pl).length → yK d ((yE c pl).getD i 0) = yK c ((yE c pl).getD i 0)) (h5 : ∀ i : Nat, i < Ps.length → Kp c d ((yE c pl).getD i 0)) : RP0 d ℓ' p st en pl src t W Ps := by
  obtain ⟨⟨a1, a2, a3, a4, a5⟩, ⟨b1, b2, b3⟩, ⟨c1, c2, c3, c4⟩, ⟨d1, d2, d3, d4⟩, ⟨e1, e2, e3, e4⟩, ⟨f1, f2⟩, g1, g2⟩ := h
  refine ⟨⟨hp.1, by rw [hp.2.1]; exact a2, by rw [hp.2.1]; exact a3, by rw [hp.2.1]; exact a4, by rw [hp.2.1]; exact a5⟩, ⟨by rw [hs.1]; exact b1, by rw [hs.2.2.2.1]; exact b2, by rw [hl src (by omega)]; exact b3⟩, ⟨by rw [h1.1]; exact c1, by rw [h1.2.1]; exact c2, by rw [hl st (by omega)]; exact c3, by rw [h1.2.1]; exact c4⟩, ⟨by rw [h2.1]; exact d1, by rw [h2.2.1]; exact d2, by rw [hl en (by omega)]; exact d3, by rw [h2.2.1]; exact d4⟩, ⟨by rw [h3.1]; exact e1, by rw [hl pl (by omega)]; exact e2, by rw [h3.2.2.2.2]; exact e3, fun i hi => ?_⟩, ⟨by rw [hp.2.2]; exact f1, f2⟩, by rw [h3.2.2.2.2]; exact g1, fun i hi => ?_⟩
  · rw [h3.2.2.2.2] at hi ⊢
    obtain ⟨q1, q2⟩ := e4 i hi
    rw [h4 i hi, hl _ (by omega)]
    exact ⟨q1, q2⟩
  · rw [h3.2.2.2.2]
    have k := h5 i hi
    have := g2 i hi
    unfold PN at this ⊢
    rw [k.1, k.2.1]
    exact this
/-- nextPerson -/
theorem t24 (hP : RP c ℓ p st en pl src t W Ps) (hn : Ps.length < 40) (hU : yU c + 13 ≤ B)
    (h : ∀ d ℓ' a, RP0 d ℓ' p st en pl src t W Ps → yI d p 6 = (Ps.length : Int) + 1 → Ps.length < (yE d pl).length → (yE d pl).getD Ps.length 0 = a → FS (SP ℓ p) ℓ ℓ' c d → yU d ≤ yU c → Q (Sum.inl (some (.ref a))) d) : CW g B O 24 0 [some (.ref p)] [] c Q := by
  obtain ⟨hP, h6⟩ := hP
  have hP' := hP
  obtain ⟨⟨a1, a2, a3, a4, a5⟩, ⟨b1, b2, b3⟩, ⟨c1, c2, c3, c4⟩, ⟨d1, d2, d3, d4⟩, ⟨e1, e2, e3, e4⟩, ⟨f1, f2⟩, g1, g2⟩ := hP
  -- the last steps
  have last : ∀ (d : CS) (ℓ' : LB), RP0 d ℓ' p st en pl src t W Ps → yI d p 6 = Ps.length → Ps.length < (yE d pl).length → FS (SP ℓ p) ℓ ℓ' c d → yU d ≤ yU c → CW g B O 24 29 [some (.ref p)] [] d Q := fun d ℓ' hd hd6 hlen hF hUd => by
    obtain ⟨⟨a1, a2, a3, a4, a5⟩, ⟨b1, b2, b3⟩, ⟨c1, c2, c3, c4⟩, ⟨d1, d2, d3, d4⟩, ⟨e1, e2, e3, e4⟩, ⟨f1, f2⟩, g1, g2⟩ := hd
    refine c24_29 ⟨a1, ?_⟩
    rw [hd6]
    refine ⟨by omega, a1, fun d3' e3' => ?_⟩
    have i6 : yI d3' p 6 = (Ps.length : Int) + 1 := by rw [e3', yI_wI, if_pos ⟨rfl, rfl⟩]
    have k3 : yK d3' = yK d := by rw [e3']; rfl
    have p3 : yP d3' = yP d := by rw [e3']; rfl
    have E3 : yE d3' = yE d := by rw [e3']; rfl
    have kp : ∀ x, ¬ x = p → Kp d d3' x := fun x hx => by rw [e3']; exact Kp_wI hx
    rw [k3, p3, i6, E3]
    have ex : ((Ps.length : Int) + 1 - 1).toNat = Ps.length := by omega
    refine ⟨a1, pl, a5, a1, by omega, e1, by omega, _, rfl, ?_, ?_⟩
    · rw [ex]; exact (e4 _ hlen).1
    · rw [ex]
      refine h d3' ℓ' _ (RP0.keep (c := d) (ℓ := ℓ') ⟨⟨a1, a2, a3, a4, a5⟩, ⟨b1, b2, b3⟩, ⟨c1, c2, c3, c4⟩, ⟨d1, d2, d3, d4⟩, ⟨e1, e2, e3, e4⟩, ⟨f1, f2⟩, g1, g2⟩ (fun _ _ => rfl) ⟨by rw [k3]; exact a1, by rw [p3], by rw [e3', yI_wI, if_neg (fun q => by simp at q)]⟩ (kp _ (kne b1 a1 (by decide))) (kp _ (kne c1 a1 (by decide))) (kp _ (kne d1 a1 (by decide))) (kp _ (kne e1 a1 (by decide))) (fun i hi => by rw [k3]) (fun i hi => kp _ (kne (e4 i (by omega)).1 a1 (by decide)))) i6 (by rw [E3]; exact hlen) (by rw [E3]) (hF.trans ⟨fun x _ => ⟨by rw [k3], rfl⟩, fun x _ hx => kp x (fun q => hx (Or.inl q))⟩) (by rw [e3']; exact hUd)
  refine c24_0 ⟨a1, a1, pl, a5, e1, ?_, ?_⟩
  · intro q
    rw [h6] at q
    exact last c ℓ hP' h6 (by omega) FS.rfl (Nat.le_refl _)
  · intro q
    rw [h6] at q
    have hlen : (yE c pl).length = Ps.length := by omega
    refine ⟨a1, pl, a5, hU, fun b hb d8 e8 => ?_⟩
    have nb : ∀ x, ¬ yK c x = 0 → ¬ x = b := fun x hx r => hx (by rw [r]; exact hb)
    have k8b : yK d8 b = 4 := by rw [e8, yK_wN, if_pos rfl]
    refine t16 k8b (fun d9 e9 => ?_)
    have kp9 : ∀ x, ¬ x = b → Kp c d9 x := fun x hx => by
      rw [e9, e8]
      exact (Kp_wN hx).trans ((Kp_wI hx).trans ((Kp_wI hx).trans ((Kp_wI hx).trans ((Kp_wI hx).trans (Kp_wI hx)))))
    have k9b : yK d9 b = 4 := by rw [e9]; exact k8b
    have U9 : yU d9 = yU c + 13 := by rw [e9, e8]; rfl
    have ke := kp9 pl (nb pl (by omega))
    refine c24_25 ⟨by rw [ke.1]; exact e1, by omega, by rw [ke.2.2.2.2]; omega, fun d10 e10 => ?_⟩
    have E10 : yE d10 pl = yE c pl ++ [b] := by rw [e10]; show yE (wE d9 pl (yE d9 pl ++ [b])) pl = _; rw [yE_wE, ke.2.2.2.2]
    have kp10 : ∀ x, ¬ x = b → ¬ x = pl → Kp c d10 x := fun x hx hx2 => (kp9 x hx).trans (by rw [e10]; exact (Kp_wE hx2).trans Kp_wU)
    have k10 : ∀ x, yK d10 x = yK d9 x := fun x => by rw [e10]; rfl
    have k10' : ∀ x, ¬ x = b → yK d10 x = yK c x := fun x hx => by rw [k10, (kp9 x hx).1]
    have U10 : yU d10 ≤ yU c := by rw [e10]; show yU d9 - 100 ≤ _; omega
    have hl10 : (yE c pl ++ [b]).length = (yE c pl).length + 1 := List.length_append
    have lb : ∀ x, ¬ yK c x = 0 → upL ℓ b (p, 10 + Ps.length) x = ℓ x := fun x hx => upL_ne (nb x hx)
    refine last d10 (upL ℓ b (p, 10 + Ps.length)) ?_ ?_ ?_ ?_ U10
    · have kpp := kp10 p (nb p (by omega)) (kne a1 e1 (by decide))
      have ks := kp10 src (nb src (by omega)) (kne b1 e1 (by decide))
      have kst := kp10 st (nb st (by omega)) (kne c1 e1 (by decide))
      have ken := kp10 en (nb en (by omega)) (kne d1 e1 (by decide))
      refine ⟨⟨by rw [kpp.1]; exact a1, by rw [kpp.2.2.1]; exact a2, by rw [kpp.2.2.1]; exact a3, by rw [kpp.2.2.1]; exact a4, by rw [kpp.2.2.1]; exact a5⟩, ⟨by rw [ks.1]; exact b1, by rw [ks.2.2.2.1]; exact b2, by rw [lb src (by omega)]; exact b3⟩, ⟨by rw [kst.1]; exact c1, by rw [kst.2.1]; exact c2, by rw [lb st (by omega)]; exact c3, by rw [kst.2.1]; exact c4⟩, ⟨by rw [ken.1]; exact d1, by rw [ken.2.1]; exact d2, by rw [lb en (by omega)]; exact d3, by rw [ken.2.1]; exact d4⟩, ⟨by rw [k10' pl (nb pl (by omega))]; exact e1, by rw [lb pl (by omega)]; exact e2, by rw [E10, hl10]; omega, fun i hi => ?_⟩, ⟨by rw [kpp.2.1]; exact f1, f2⟩, by rw [E10, hl10]; omega, fun i hi => ?_⟩
      · rw [E10, hl10] at hi
        rw [E10]
        by_cases r : i = (yE c pl).length
        · rw [gD_eq r, k10, k9b, upL_eq, r, hlen]
          exact ⟨rfl, rfl⟩
        · rw [gD_lt (by omega)]
          obtain ⟨s1, s2⟩ := e4 i (by omega)
          rw [k10' _ (nb _ (by omega)), lb _ (by omega)]
          exact ⟨s1, s2⟩
      · rw [E10, gD_lt (by omega)]
        obtain ⟨s1, s2⟩ := e4 i (by omega)
        have k := kp10 _ (nb _ (by omega)) (kne s1 e1 (by decide))
        have := g2 i hi
        unfold PN at this ⊢
        rw [k.1, k.2.1]
        exact this
    · have kpp := kp10 p (nb p (by omega)) (kne a1 e1 (by decide))
      rw [kpp.2.1]; exact h6
    · rw [E10, hl10]; omega
    · exact ⟨fun x hx => ⟨k10' x (nb x hx), lb x hx⟩, fun x hx hS => kp10 x (nb x hx) (fun r => hS (Or.inr (by rw [r, e2])))⟩
/-- the parts of a new person -/
theorem RP0.add {x : P5} {a : Nat} {d : CS} (hP : RP0 c ℓ p st en pl src t W Ps) (h6 : yI c p 6 = (Ps.length : Int) + 1) (hlen : Ps.length < (yE c pl).length) (ha : (yE c pl).getD Ps.length 0 = a) (hd : ∀ y, ¬ y = a → Kp c d y) (hK : ∀ y, yK d y = yK c y) (hE : yE d = yE c) (hx : PN d a x) : RP d ℓ p st en pl src t W (Ps ++ [x]) ∧ FS (SP ℓ p) ℓ ℓ c d := by
  have hP' := hP
  obtain ⟨⟨a1, a2, a3, a4, a5⟩, ⟨b1, b2, b3⟩, ⟨c1, c2, c3, c4⟩, ⟨d1, d2, d3, d4⟩, ⟨e1, e2, e3, e4⟩, ⟨f1, f2⟩, g1, g2⟩ := hP
  have ka := e4 Ps.length hlen
  rw [ha] at ka
  have hpk := hd p (kne a1 ka.1 (by decide))
  have hl : (Ps ++ [x]).length = Ps.length + 1 := List.length_append
  have key := RP0.keep (ℓ' := ℓ) (d := d) hP' (fun _ _ => rfl) ⟨by rw [hpk.1]; exact a1, hpk.2.2.1, by rw [hpk.2.1]⟩ (hd src (kne b1 ka.1 (by decide))) (hd st (kne c1 ka.1 (by decide))) (hd en (kne d1 ka.1 (by decide))) (hd pl (kne e1 ka.1 (by decide))) (fun i _ => hK _) (fun i hi => hd _ (lne (e4 i (by omega)).2 ka.2 (by simp; omega)))
  refine ⟨⟨⟨key.1, key.2.1, key.2.2.1, key.2.2.2.1, key.2.2.2.2.1, key.2.2.2.2.2.1, by rw [hl, hE]; omega, fun i hi => ?_⟩, by rw [hl, hpk.2.1]; exact h6⟩, fun y _ => ⟨hK y, rfl⟩, fun y _ hS => hd y (fun q => hS (Or.inr (by rw [q, ka.2])))⟩
  rw [hl] at hi
  by_cases q : i = Ps.length
  · rw [gD_eq q, hE, q, ha]; exact hx
  · rw [gD_lt (by omega)]
    exact key.2.2.2.2.2.2.2 i (by omega)
theorem t25 {a f m : Nat} (hm : f + m ≤ W.length) (hP : RP0 c ℓ p st en pl src t W Ps) (h6 : yI c p 6 = (Ps.length : Int) + 1) (hlen : Ps.length < (yE c pl).length) (ha : (yE c pl).getD Ps.length 0 = a)
    (h : ∀ d, RP d ℓ p st en pl src t W (Ps ++ [sh5 f (p5 t (W.drop f) (some m))]) → FS (SP ℓ p) ℓ ℓ c d → yU d = yU c → Q (Sum.inl none) d) : CW g B O 25 0 [some (.ref p), some (.ref a), some (.int (iI f)), some (.int (iI ((f + m : Nat) : Int))), none] [] c Q := by
  have hPW := hP.pw
  have hw40 := hPW.2.2.2.2.2
  have f3 := hPW.2.2.2.2.1
  have aK : yK c a = 4 := by rw [← ha]; exact (hP.2.2.2.2.1.2.2.2 _ hlen).1
  have pK := hP.1.1
  refine c25_0 ?_
  have sm : ∀ k, smW t W (f + k) = smW t (W.drop f) k := fun k => by
    unfold smW
    rw [drop_gD]
  have fin : ∀ k, k ≤ m - 1 → fst' (fun k => !smW t (W.drop f) k) (m - 1) 0 = k → CW g B O 25 26 [some (.ref p), some (.ref a), some (.int (iI f)), some (.int (iI ((f + m : Nat) : Int))), some (.int (iI ((f + k : Nat) : Int)))] [] c Q := fun k hk hfst => by
    refine c25_26 ⟨aK, fun d1 e1 => ⟨by rw [e1]; exact aK, fun d3 e3 => ⟨by rw [e3, e1]; exact aK, fun d5 e5 => ⟨by rw [e5, e3, e1]; exact aK, fun d7 e7 => ⟨by rw [e7, e5, e3, e1]; exact pK, by rw [e7, e5, e3, e1]; exact aK, fun d10 e10 => ?_⟩⟩⟩⟩⟩
    have hpa : ¬ p = a := kne pK aK (by decide)
    have i73 : yI d7 p 3 = W.length := by
      rw [e7, yI_wI, if_neg (fun q => hpa q.1), e5, yI_wI, if_neg (fun q => hpa q.1), e3, yI_wI, if_neg (fun q => hpa q.1), e1, yI_wI, if_neg (fun q => hpa q.1)]
      exact f3
    rw [i73] at e10
    have hd : ∀ y, ¬ y = a → Kp c d10 y := fun y hy => by
      rw [e10, e7, e5, e3, e1]
      exact (Kp_wI hy).trans ((Kp_wI hy).trans ((Kp_wI hy).trans ((Kp_wI hy).trans (Kp_wI hy))))
    have hK : ∀ y, yK d10 y = yK c y := fun y => by rw [e10, e7, e5, e3, e1]; rfl
    have hdl : (W.drop f).length = W.length - f := List.length_drop
    obtain ⟨r1, r2⟩ := hP.add (x := sh5 f (p5 t (W.drop f) (some m))) (d := d10) h6 hlen ha hd hK (by rw [e10, e7, e5, e3, e1]; rfl) (by
      refine ⟨by rw [hK]; exact aK, ?_, ?_, ?_, ?_, ?_⟩
      · show _ = ((f + m : Nat) : Int)
        rw [e10, yI_wI, if_neg (fun q => by simp at q), e7, yI_wI, if_pos ⟨rfl, rfl⟩]
      · show _ = ((f + (W.drop f).length : Nat) : Int)
        rw [e10, yI_wI, if_pos ⟨rfl, rfl⟩, hdl]; omega
      · show _ = ((f + 0 : Nat) : Int)
        rw [e10, yI_wI, if_neg (fun q => by simp at q), e7, yI_wI, if_neg (fun q => by simp at q), e5, yI_wI, if_neg (fun q => by simp at q), e3, yI_wI, if_neg (fun q => by simp at q), e1, yI_wI, if_pos ⟨rfl, rfl⟩]; omega
      · show _ = ((f + fst' (fun k => !smW t (W.drop f) k) (m - 1) 0 : Nat) : Int)
        rw [hfst, e10, yI_wI, if_neg (fun q => by simp at q), e7, yI_wI, if_neg (fun q => by simp at q), e5, yI_wI, if_neg (fun q => by simp at q), e3, yI_wI, if_pos ⟨rfl, rfl⟩]
      · show _ = ((f + m : Nat) : Int)
        rw [e10, yI_wI, if_neg (fun q => by simp at q), e7, yI_wI, if_neg (fun q => by simp at q), e5, yI_wI, if_pos ⟨rfl, rfl⟩])
    exact h d10 r1 r2 (by rw [e10, e7, e5, e3, e1]; rfl)
  have loop : ∀ (n k : Nat), (m - 1) - k = n → k ≤ m - 1 → (∀ j, j < k → smW t (W.drop f) j = true) → CW g B O 25 3 [some (.ref p), some (.ref a), some (.int (iI f)), some (.int (iI ((f + m : Nat) : Int))), some (.int (iI ((f + k : Nat) : Int)))] [] c Q := by
    intro n
    induction n with
    | zero =>
      intro k k1 k2 k3
      refine c25_3 ⟨by omega, fun _ => fin k k2 (fst_uniq (Nat.zero_le _) (by omega) (fun j _ hj s => by have := k3 j hj; simp [this] at s) (Or.inl (by omega))), fun q => by omega⟩
    | succ n ih =>
      intro k k1 k2 k3
      refine c25_3 ⟨by omega, fun q => by omega, fun _ => ⟨pK, t27 hPW (by omega) (fun s => c25_17 ⟨fun q => by omega, fun _ => ⟨by omega, ?_⟩⟩) (fun s => c25_17 ⟨fun _ => fin k k2 ?_, fun q => absurd rfl q⟩)⟩⟩
      · refine ih (k + 1) (by omega) (by omega) (fun j hj => ?_)
        by_cases q : j = k
        · rw [q, ← sm]; exact s
        · exact k3 j (by omega)
      · exact fst_uniq (Nat.zero_le _) (by omega) (fun j _ hj s => by have := k3 j hj; simp [this] at s) (Or.inr (by rw [sm] at s; simpa using s))
  have := loop _ 0 rfl (Nat.zero_le _) (fun j hj => absurd hj (Nat.not_lt_zero _))
  rw [Nat.add_zero] at this
  exact this
theorem t26 {a f : Nat} (hfW : f < W.length) (hP : RP0 c ℓ p st en pl src t W Ps) (h6 : yI c p 6 = (Ps.length : Int) + 1) (hlen : Ps.length < (yE c pl).length) (ha : (yE c pl).getD Ps.length 0 = a)
    (h : ∀ d, RP d ℓ p st en pl src t W (Ps ++ [sh5 f (p5 t (W.drop f) none)]) → FS (SP ℓ p) ℓ ℓ c d → yU d = yU c → Q (Sum.inl none) d) : CW g B O 26 0 [some (.ref p), some (.ref a), some (.int (iI f)), none, none, none] [] c Q := by
  have hPW := hP.pw
  have hw40 := hPW.2.2.2.2.2
  have f3 := hPW.2.2.2.2.1
  have aK : yK c a = 4 := by rw [← ha]; exact (hP.2.2.2.2.1.2.2.2 _ hlen).1
  have pK := hP.1.1
  have hdl : (W.drop f).length = W.length - f := List.length_drop
  have sm : ∀ k, smW t W (f + k) = smW t (W.drop f) k := fun k => by
    unfold smW
    rw [drop_gD]
  refine c26_0 ⟨pK, by omega, ?_⟩
  rw [f3]
  have fin : ∀ (k b : Nat) {l3 : Option Value}, k ≤ b → b ≤ (W.drop f).length - 1 → fst' (smW t (W.drop f)) ((W.drop f).length - 1) 0 = k → bck (smW t (W.drop f)) k ((W.drop f).length - 1) = b → CW g B O 26 58 [some (.ref p), some (.ref a), some (.int (iI f)), l3, some (.int (iI ((f + k : Nat) : Int))), some (.int (iI ((f + b : Nat) : Int)))] [] c Q := fun k b l3 hk hb hfst hbck => by
    refine c26_58 ⟨aK, fun d1 e1 => ⟨by rw [e1]; exact aK, fun d3 e3 => ⟨by rw [e3, e1]; exact aK, fun d5 e5 => ⟨by rw [e5, e3, e1]; exact aK, fun d7 e7 => ⟨by rw [e7, e5, e3, e1]; exact pK, by rw [e7, e5, e3, e1]; exact aK, fun d10 e10 => ?_⟩⟩⟩⟩⟩
    have hpa : ¬ p = a := kne pK aK (by decide)
    have i73 : yI d7 p 3 = W.length := by
      rw [e7, yI_wI, if_neg (fun q => hpa q.1), e5, yI_wI, if_neg (fun q => hpa q.1), e3, yI_wI, if_neg (fun q => hpa q.1), e1, yI_wI, if_neg (fun q => hpa q.1)]
      exact f3
    rw [i73] at e10
    have hd : ∀ y, ¬ y = a → Kp c d10 y := fun y hy => by
      rw [e10, e7, e5, e3, e1]
      exact (Kp_wI hy).trans ((Kp_wI hy).trans ((Kp_wI hy).trans ((Kp_wI hy).trans (Kp_wI hy))))
    have hK : ∀ y, yK d10 y = yK c y := fun y => by rw [e10, e7, e5, e3, e1]; rfl
    obtain ⟨r1, r2⟩ := hP.add (x := sh5 f (p5 t (W.drop f) none)) (d := d10) h6 hlen ha hd hK (by rw [e10, e7, e5, e3, e1]; rfl) (by
      refine ⟨by rw [hK]; exact aK, ?_, ?_, ?_, ?_, ?_⟩
      · show _ = ((f + 0 : Nat) : Int)
        rw [e10, yI_wI, if_neg (fun q => by simp at q), e7, yI_wI, if_neg (fun q => by simp at q), e5, yI_wI, if_neg (fun q => by simp at q), e3, yI_wI, if_neg (fun q => by simp at q), e1, yI_wI, if_pos ⟨rfl, rfl⟩]; omega
      · show _ = ((f + fst' (smW t (W.drop f)) ((W.drop f).length - 1) 0 : Nat) : Int)
        rw [hfst, e10, yI_wI, if_neg (fun q => by simp at q), e7, yI_wI, if_neg (fun q => by simp at q), e5, yI_wI, if_neg (fun q => by simp at q), e3, yI_wI, if_pos ⟨rfl, rfl⟩]
      · show _ = ((f + fst' (smW t (W.drop f)) ((W.drop f).length - 1) 0 : Nat) : Int)
        rw [hfst, e10, yI_wI, if_neg (fun q => by simp at q), e7, yI_wI, if_neg (fun q => by simp at q), e5, yI_wI, if_pos ⟨rfl, rfl⟩]
      · show _ = ((f + bck (smW t (W.drop f)) (fst' (smW t (W.drop f)) ((W.drop f).length - 1) 0) ((W.drop f).length - 1) : Nat) : Int)
        rw [hfst, hbck, e10, yI_wI, if_neg (fun q => by simp at q), e7, yI_wI, if_pos ⟨rfl, rfl⟩]
      · show _ = ((f + (W.drop f).length : Nat) : Int)
        rw [e10, yI_wI, if_pos ⟨rfl, rfl⟩, hdl]; omega)
    exact h d10 r1 r2 (by rw [e10, e7, e5, e3, e1]; rfl)
  have loop2 : ∀ (b k : Nat) {l3 : Option Value}, fst' (smW t (W.drop f)) ((W.drop f).length - 1) 0 = k → k ≤ b → b ≤ (W.drop f).length - 1 → (∀ j, b ≤ j → j < (W.drop f).length - 1 → ¬ smW t (W.drop f) j = true) → CW g B O 26 34 [some (.ref p), some (.ref a), some (.int (iI f)), l3, some (.int (iI ((f + k : Nat) : Int))), some (.int (iI ((f + b : Nat) : Int)))] [] c Q := by
    intro b
    induction b with
    | zero =>
      intro k l3 hf hk hb hn
      exact c26_34 ⟨fun _ => fin k 0 hk hb hf (bck_uniq hk hb (fun j a b => hn j a b) (Or.inl (by omega))), fun q => by omega⟩
    | succ b ih =>
      intro k l3 hf hk hb hn
      by_cases q : k = b + 1
      · exact c26_34 ⟨fun _ => fin k (b + 1) hk hb hf (bck_uniq hk hb (fun j a b => hn j a b) (Or.inl q.symm)), fun r => by omega⟩
      · refine c26_34 ⟨fun r => by omega, fun _ => ⟨by omega, pK, ?_⟩⟩
        rw [show ((f + (b + 1) : Nat) : Int) - 1 = ((f + b : Nat) : Int) by omega]
        refine t27 hPW (by omega) (fun s => c26_49 ⟨fun _ => fin k (b + 1) hk hb hf (bck_uniq hk hb (fun j a b => hn j a b) (Or.inr ⟨by omega, by rw [Nat.add_sub_cancel, ← sm]; exact s⟩)), fun r => by omega⟩) (fun s => c26_49 ⟨fun r => absurd rfl r, fun _ => ⟨by omega, ?_⟩⟩)
        rw [show ((f + (b + 1) : Nat) : Int) + (-1) = ((f + b : Nat) : Int) by omega]
        refine ih k hf (by omega) (by omega) (fun j j1 j2 => ?_)
        by_cases r : j = b
        · rw [r, ← sm]; exact s
        · exact hn j (by omega) j2
  have loop : ∀ (n k : Nat) {l5 : Option Value}, ((W.drop f).length - 1) - k = n → k ≤ (W.drop f).length - 1 → (∀ j, j < k → ¬ smW t (W.drop f) j = true) → CW g B O 26 10 [some (.ref p), some (.ref a), some (.int (iI f)), some (.int (iI ((W.length : Int) - 1))), some (.int (iI ((f + k : Nat) : Int))), l5] [] c Q := by
    have go : ∀ (k : Nat) {l5 : Option Value}, k ≤ (W.drop f).length - 1 → fst' (smW t (W.drop f)) ((W.drop f).length - 1) 0 = k → CW g B O 26 31 [some (.ref p), some (.ref a), some (.int (iI f)), some (.int (iI ((W.length : Int) - 1))), some (.int (iI ((f + k : Nat) : Int))), l5] [] c Q := fun k l5 hk hf => by
      have := loop2 ((W.drop f).length - 1) k (l3 := some (.int (iI ((W.length : Int) - 1)))) hf hk (Nat.le_refl _) (fun j a b => by omega)
      rw [show ((f + ((W.drop f).length - 1) : Nat) : Int) = (W.length : Int) - 1 by omega] at this
      exact c26_31 this
    intro n
    induction n with
    | zero =>
      intro k l5 k1 k2 k3
      exact c26_10 ⟨fun _ => go k k2 (fst_uniq (Nat.zero_le _) (by omega) (fun j _ hj => k3 j hj) (Or.inl (by omega))), fun q => by omega⟩
    | succ n ih =>
      intro k l5 k1 k2 k3
      refine c26_10 ⟨fun q => by omega, fun _ => ⟨pK, t27 hPW (by omega) (fun s => c26_22 ⟨fun _ => go k k2 (fst_uniq (Nat.zero_le _) (by omega) (fun j _ hj => k3 j hj) (Or.inr (by rw [← sm]; exact s))), fun q => by omega⟩) (fun s => c26_22 ⟨fun q => absurd rfl q, fun _ => ⟨by omega, ?_⟩⟩)⟩⟩
      refine ih (k + 1) (by omega) (by omega) (fun j hj => ?_)
      by_cases q : j = k
      · rw [q, ← sm]; exact s
      · exact k3 j (by omega)
  have := loop _ 0 (l5 := none) rfl (Nat.zero_le _) (fun j hj => absurd hj (Nat.not_lt_zero _))
  rw [Nat.add_zero] at this
  exact this
end CRead
