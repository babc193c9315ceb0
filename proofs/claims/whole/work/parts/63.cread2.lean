theorem rgW_self {t : List Int} {e : Nat} : rgW t e e = [] := by
  unfold rgW
  rw [Nat.sub_self]
  exact psh_self
/-- a Persons object, whatever it has read -/
def PsI (c : CS) (ℓ : LB) (p : Nat) : Prop := yK c p = 5 ∧ ∃ st en pl, (yP c p 1 = some st ∧ yP c p 2 = some en ∧ yP c p 4 = some pl) ∧ (yK c st = 101 ∧ yI c st (-1) = 40 ∧ ℓ st = (p, 1)) ∧ (yK c en = 101 ∧ yI c en (-1) = 40 ∧ ℓ en = (p, 2)) ∧ (yK c pl = 1 ∧ ℓ pl = (p, 3) ∧ (yE c pl).length ≤ 40 ∧ ∀ i : Nat, i < (yE c pl).length → yK c ((yE c pl).getD i 0) = 4 ∧ ℓ ((yE c pl).getD i 0) = (p, 10 + i))
theorem RP0.psi {c : CS} {ℓ : LB} {p st en pl src : Nat} {t : List Int} {W : List Wd} {Ps : List P5} (h : RP0 c ℓ p st en pl src t W Ps) : PsI c ℓ p := by
  obtain ⟨⟨a1, a2, a3, a4, a5⟩, -, ⟨c1, c2, c3, -⟩, ⟨d1, d2, d3, -⟩, e, -⟩ := h
  exact ⟨a1, st, en, pl, ⟨a3, a4, a5⟩, ⟨c1, c2, c3⟩, ⟨d1, d2, d3⟩, e⟩
theorem RP.pv {c : CS} {ℓ : LB} {p st en pl src : Nat} {t : List Int} (h : RP c ℓ p st en pl src t (ppl t).1 (ppl t).2) : PV c p t ∧ yP c p 0 = some src := by
  obtain ⟨h0, h6⟩ := h
  exact ⟨⟨h0.pw, h6, pl, h0.1.2.2.2.2, h0.2.2.2.2.1.1, h0.2.2.2.2.2.2.1, h0.2.2.2.2.2.2.2⟩, h0.1.2.1⟩
/-- it stays where its objects stay -/
theorem PsI.keep {c d : CS} {ℓ ℓ' : LB} {p : Nat} (h : PsI c ℓ p) (hl : ∀ a, ¬ yK c a = 0 → ℓ' a = ℓ a ∧ yK d a = yK c a) (hk : ∀ a, ¬ yK c a = 0 → SP ℓ p a → Kp c d a) : PsI d ℓ' p := by
  obtain ⟨h0, st, en, pl, ⟨h1, h2, h3⟩, ⟨a1, a2, a3⟩, ⟨b1, b2, b3⟩, c1, c2, c3, c4⟩ := h
  have kp := hk p (by omega) (Or.inl rfl)
  have ks := hk st (by omega) (Or.inr (by rw [a3]))
  have ke := hk en (by omega) (Or.inr (by rw [b3]))
  have kl := hk pl (by omega) (Or.inr (by rw [c2]))
  refine ⟨by rw [kp.1]; exact h0, st, en, pl, ⟨by rw [kp.2.2.1]; exact h1, by rw [kp.2.2.1]; exact h2, by rw [kp.2.2.1]; exact h3⟩, ⟨by rw [ks.1]; exact a1, by rw [ks.2.1]; exact a2, by rw [(hl st (by omega)).1]; exact a3⟩, ⟨by rw [ke.1]; exact b1, by rw [ke.2.1]; exact b2, by rw [(hl en (by omega)).1]; exact b3⟩, by rw [kl.1]; exact c1, by rw [(hl pl (by omega)).1]; exact c2, by rw [kl.2.2.2.2]; exact c3, fun i hi => ?_⟩
  rw [kl.2.2.2.2] at hi ⊢
  obtain ⟨q1, q2⟩ := c4 i hi
  rw [(hl _ (by omega)).2, (hl _ (by omega)).1]
  exact ⟨q1, q2⟩
/-- also what it has read, where its text stays -/
theorem PV.keep {c d : CS} {ℓ : LB} {p src : Nat} {t : List Int} (h : PV c p t) (hI : PsI c ℓ p) (hs : yP c p 0 = some src) (hk : ∀ a, ¬ yK c a = 0 → SP ℓ p a ∨ a = src → Kp c d a) : PV d p t := by
  obtain ⟨⟨p1, ⟨s, s1, s2, s3⟩, ⟨a, a1, a2, a3, a4⟩, ⟨b, b1, b2, b3, b4⟩, p5, p6⟩, q1, l, l1, l2, l3, l4⟩ := h
  obtain ⟨-, st, en, pl, ⟨h1, h2, h3⟩, ⟨c1, c2, c3⟩, ⟨d1, d2, d3⟩, e1, e2, e3, e4⟩ := hI
  have kp := hk p (by omega) (Or.inl (Or.inl rfl))
  rw [hs] at s1
  cases s1
  rw [h1] at a1
  cases a1
  rw [h2] at b1
  cases b1
  rw [h3] at l1
  cases l1
  have ks := hk src (by omega) (Or.inr rfl)
  have ka := hk a (by omega) (Or.inl (Or.inr (by rw [c3])))
  have kb := hk b (by omega) (Or.inl (Or.inr (by rw [d3])))
  have kl := hk l (by omega) (Or.inl (Or.inr (by rw [e2])))
  refine ⟨⟨by rw [kp.1]; exact p1, ⟨src, by rw [kp.2.2.1]; exact hs, by rw [ks.1]; exact s2, by rw [ks.2.2.2.1]; exact s3⟩, ⟨a, by rw [kp.2.2.1]; exact h1, by rw [ka.1]; exact a2, by rw [ka.2.1]; exact a3, by rw [ka.2.1]; exact a4⟩, ⟨b, by rw [kp.2.2.1]; exact h2, by rw [kb.1]; exact b2, by rw [kb.2.1]; exact b3, by rw [kb.2.1]; exact b4⟩, by rw [kp.2.1]; exact p5, p6⟩, by rw [kp.2.1]; exact q1, l, by rw [kp.2.2.1]; exact h3, by rw [kl.1]; exact l2, by rw [kl.2.2.2.2]; exact l3, fun i hi => ?_⟩
  rw [kl.2.2.2.2]
  obtain ⟨r1, r2⟩ := e4 i (by omega)
  exact (l4 i hi).kp (hk _ (by omega) (Or.inl (Or.inr (by rw [r2]))))
section CRead2
variable {g : Nat → Nat} {B : Nat} {O : Nat → Prop} {c : CS} {Q : Rs → CS → Prop} {ℓ : LB} {p st en pl src : Nat} {t : List Int} {W : List Wd} {Ps : List P5}
theorem t22 {f e : Nat} (ht : t.length ≤ 80) (hfe : f ≤ e ∧ e ≤ t.length) (hP : RP c ℓ p st en pl src t W Ps) (hW : 2 * W.length ≤ f) (hPs : Ps.length ≤ W.length) (hU : yU c + 13 ≤ B)
    (h : ∀ d ℓ', RP d ℓ' p st en pl src t (adR t (W, Ps) (f, e)).1 (adR t (W, Ps) (f, e)).2 → FS (SP ℓ p) ℓ ℓ' c d → yU d ≤ yU c → Q (Sum.inl none) d) : CW g B O 22 0 [some (.ref p), some (.int (iI f)), some (.int (iI e)), none, none, none, none] [] c Q := by
  obtain ⟨hP0, h6⟩ := hP
  have hP1 := hP0
  obtain ⟨⟨a1, a2, -⟩, ⟨b1, b2, -⟩, -, -, -, ⟨f3, f40⟩, -⟩ := hP1
  refine c22_0 ?_
  have hro := rg_ok (t := t) hfe.1
  have go : ∀ m, f ≤ m → m ≤ e → (∀ j, f ≤ j → j < m → ¬ t.getD j 0 = 44) → (m = e ∨ t.getD m 0 = 44) → CW g B O 22 26 [some (.ref p), some (.int (iI f)), some (.int (iI e)), some (.int (iI m)), none, none, none] [] c Q := fun m m1 m2 hno hm => by
    have hrm := rg_ok (t := t) m1
    refine c22_26 ⟨a1, a1, t23 ht ⟨m1, by omega⟩ hP0 (fun j j1 j2 j3 => ?_) (fun d1 r1 r6 rF rU => ?_)⟩
    · have := (scn_ok' (t := t) j1).1
      omega
    · rw [f3]
      have f3' := r1.2.2.2.2.2.1.1
      have al : (W ++ rgW t f m).length = W.length + (rgW t f m).length := List.length_append
      refine c22_38 ⟨r1.1.1, r1.1.1, t23 ht ⟨m2, hfe.2⟩ r1 (fun j j1 j2 j3 => ?_) (fun d2 s1 s6 sF sU => ?_)⟩
      · by_cases q : j = m
        · rw [q, Nat.sub_self] at j3
          have j3 : m < m := j3
          omega
        · have hm44 := hm.resolve_left (by omega)
          have hc := scn_comma (t := t) m1 hno hm44 (j - m - 1)
          rw [show m + 1 + (j - m - 1) - f = j - f by omega, show 1 + (j - m - 1) = j - m by omega] at hc
          have hs := (scn_ok' (t := t) (f := f) (i := j) (by omega)).1
          rw [hc.2.1, List.length_append] at hs
          rw [al]
          have hc1 := hc.1
          omega
      · rw [f3', al]
        have hW2 : W ++ rgW t f m ++ rgW t m e = W ++ rgW t f e ∧ (m < e → rgB t f e = some (rgW t f m).length) ∧ (m = e → rgB t f e = none) := by
          by_cases q : m = e
          · subst q
            rw [rgW_self, List.append_nil]
            exact ⟨rfl, fun r => by omega, fun _ => scn_none (fun j j1 j2 => hno j j1 (by omega))⟩
          · obtain ⟨q1, q2⟩ := rg_comma (t := t) (e := e) m1 (by omega) hno (hm.resolve_left q)
            rw [q1, List.append_assoc]
            exact ⟨rfl, fun _ => q2, fun r => absurd r q⟩
        obtain ⟨w1, w2, w3⟩ := hW2
        rw [w1] at s1
        have f3'' := s1.2.2.2.2.2.1.1
        have al2 : (W ++ rgW t f e).length = W.length + (rgW t f e).length := List.length_append
        have f40' := s1.2.2.2.2.2.1.2
        have hF2 : FS (SP ℓ p) ℓ ℓ c d2 := rF.then' sF
        have h62 : yI d2 p 6 = Ps.length := by rw [s6, r6]; exact h6
        have hdrop : (W ++ rgW t f e).drop W.length = rgW t f e := List.drop_left
        refine c22_50 ⟨s1.1.1, fun q => c22_91 ?_, fun q => ⟨s1.1.1, ?_⟩⟩
        · have hz : rgW t f e = [] := List.eq_nil_of_length_eq_zero (by omega)
          have hA : adR t (W, Ps) (f, e) = (W, Ps) := if_pos hz
          rw [hA] at h
          rw [hz, List.append_nil] at s1
          exact h d2 ℓ ⟨s1, h62⟩ hF2 (by omega)
        · have hz : ¬ rgW t f e = [] := fun r => by rw [r] at al2; have al2 : (W ++ []).length = W.length + 0 := al2; rw [f3'', r] at q; omega
          have hA : adR t (W, Ps) (f, e) = (W ++ rgW t f e, Ps ++ [sh5 W.length (p5 t (rgW t f e) (rgB t f e))]) := if_neg hz
          rw [hA] at h
          refine t24 ⟨s1, h62⟩ (by omega) (by omega) (fun d3 ℓ' a u1 u6 ul ua uF uU => ?_)
          have hF3 := hF2.then' uF
          refine c22_63 ⟨fun q1 => ⟨u1.1.1, t26 (by omega) u1 u6 ul ua (fun d4 x1 xF xU => c22_91 ?_)⟩, fun q1 => ⟨u1.1.1, t25 (m := (rgW t f m).length) (f := W.length) ?_ u1 u6 ul ua (fun d4 x1 xF xU => c22_80 (c22_91 ?_))⟩⟩
          · rw [hdrop] at x1
            rw [w3 (by omega)] at h
            exact h d4 ℓ' x1 (hF3.then' xF) (by omega)
          · have h1 := hro.2.2 (rgW t f m).length (w2 (by omega))
            omega
          · rw [hdrop] at x1
            rw [w2 (by omega)] at h
            exact h d4 ℓ' x1 (hF3.then' xF) (by omega)
  have loop : ∀ (n k : Nat), e - k = n → f ≤ k → k ≤ e → (∀ j, f ≤ j → j < k → ¬ t.getD j 0 = 44) → CW g B O 22 2 [some (.ref p), some (.int (iI f)), some (.int (iI e)), some (.int (iI k)), none, none, none] [] c Q := by
    intro n
    induction n with
    | zero =>
      intro k k1 k2 k3 k4
      exact c22_2 ⟨fun _ => go k k2 k3 k4 (Or.inl (by omega)), fun q => by omega⟩
    | succ n ih =>
      intro k k1 k2 k3 k4
      have esg : sg (yT c src) k = t.getD k 0 := by rw [b2, sg_nat]
      refine c22_2 ⟨fun q => by omega, fun _ => ⟨a1, src, a2, b1, fun q => go k k2 k3 k4 (Or.inr (by rw [← esg]; exact q)), fun q => ⟨by omega, ih (k + 1) (by omega) (by omega) (by omega) (fun j j1 j2 => ?_)⟩⟩⟩
      by_cases r : j = k
      · rw [r, ← esg]; exact q
      · exact k4 j j1 (by omega)
  exact loop _ f rfl (Nat.le_refl _) hfe.1 (fun j j1 j2 => by omega)
/-- reading an author's text -/
theorem t20 (hI : PsI c ℓ p) (hs : yK c src = 7) (hst : yT c src = t) (hsl : ¬ (ℓ src).1 = p) (ht : t.length ≤ 80) (hU : yU c + 13 ≤ B)
    (h : ∀ d ℓ', PsI d ℓ' p → PV d p t → yP d p 0 = some src → FS (SP ℓ p) ℓ ℓ' c d → yU d ≤ yU c → Q (Sum.inl none) d) : CW g B O 20 0 [some (.ref p), some (.ref src), none, none, none] [] c Q := by
  obtain ⟨h0, st, en, pl, ⟨h1, h2, h3⟩, ⟨a1, a2, a3⟩, ⟨b1, b2, b3⟩, c1, c2, c3, c4⟩ := hI
  refine c20_0 ⟨h0, fun d1 e1 => ⟨by rw [e1]; exact h0, fun d3 e3 => ⟨by rw [e3, e1]; exact h0, fun d5 e5 => ?_⟩⟩⟩
  have kp : ∀ x, ¬ x = p → Kp c d5 x := fun x hx => by rw [e5, e3, e1]; exact (Kp_wP hx).trans ((Kp_wI hx).trans (Kp_wI hx))
  have k5 : ∀ x, yK d5 x = yK c x := fun x => by rw [e5, e3, e1]; rfl
  have P5' : ∀ j : Int, ¬ j = 0 → yP d5 p j = yP c p j := fun j hj => by rw [e5, e3, e1]; show yP (wP c p 0 (some src)) p j = _; rw [yP_wP, if_neg (fun q => hj q.2)]
  have U5 : yU d5 = yU c := by rw [e5, e3, e1]; rfl
  have ks := kp src (kne hs h0 (by decide))
  have kst := kp st (kne a1 h0 (by decide))
  have ken := kp en (kne b1 h0 (by decide))
  have kpl := kp pl (kne c1 h0 (by decide))
  have hR : RP d5 ℓ p st en pl src t [] [] := by
    refine ⟨⟨⟨by rw [k5]; exact h0, ?_, by rw [P5' 1 (by decide)]; exact h1, by rw [P5' 2 (by decide)]; exact h2, by rw [P5' 4 (by decide)]; exact h3⟩, ⟨by rw [ks.1]; exact hs, by rw [ks.2.2.2.1]; exact hst, hsl⟩, ⟨by rw [kst.1]; exact a1, by rw [kst.2.1]; exact a2, a3, fun i hi => absurd hi (Nat.not_lt_zero _)⟩, ⟨by rw [ken.1]; exact b1, by rw [ken.2.1]; exact b2, b3, fun i hi => absurd hi (Nat.not_lt_zero _)⟩, ⟨by rw [kpl.1]; exact c1, c2, by rw [kpl.2.2.2.2]; exact c3, fun i hi => ?_⟩, ⟨?_, Nat.zero_le _⟩, Nat.zero_le _, fun i hi => absurd hi (Nat.not_lt_zero _)⟩, ?_⟩
    · rw [e5, e3, e1]; show yP (wP c p 0 (some src)) p 0 = _; rw [yP_wP, if_pos ⟨rfl, rfl⟩]
    · rw [kpl.2.2.2.2] at hi ⊢
      rw [k5]
      exact c4 i hi
    · rw [e5, yI_wI, if_neg (fun q => by simp at q), e3, yI_wI, if_pos ⟨rfl, rfl⟩]; rfl
    · rw [e5, yI_wI, if_pos ⟨rfl, rfl⟩]; rfl
  have hF5 : FS (SP ℓ p) ℓ ℓ c d5 := ⟨fun x _ => ⟨k5 x, rfl⟩, fun x _ hx => kp x (fun q => hx (Or.inl q))⟩
  -- the end
  have last : ∀ (d : CS) (ℓ' : LB) (s : AS) {l3 : Option Value}, s = ap t (asn t t.length) t.length → RP d ℓ' p st en pl src t (ppA t s.2.2).1 (ppA t s.2.2).2 → FS (SP ℓ p) ℓ ℓ' c d → yU d ≤ yU c → CW g B O 22 0 [some (.ref p), some (.int (iI s.2.1)), some (.int (iI t.length)), none, none, none, none] [] d (CK g B O 20 90 [some (.ref p), some (.ref src), some (.int (iI s.2.1)), l3, some (.int (iI ((t.length + 1 : Nat) : Int)))] [] Q false) := fun d ℓ' s l3 hs' hd hF hUd => by
    have h1 := asn_ok t t.length
    have h2 := ap_ok h1
    have h3 := ap_pf (t := t) (asn_AR t t.length) h1.2.1
    rw [← hs'] at h2 h3
    have hpe : ppA t (s.2.2 ++ [(s.2.1, t.length)]) = ppl t := by
      unfold ppl regs
      rw [hs']
    refine t22 ht ⟨h3, Nat.le_refl _⟩ hd h2.2.2.1.1 (ppA_le t _) (by omega) (fun d2 ℓ2 r1 r2 r3 => c20_90 ?_)
    have e : adR t ((ppA t s.2.2).1, (ppA t s.2.2).2) (s.2.1, t.length) = ppl t := by rw [← hpe, ppA_snoc]
    rw [e] at r1
    obtain ⟨v1, v2⟩ := r1.pv
    exact h d2 ℓ2 r1.1.psi v1 v2 (hF.then' r2) (by omega)
  have step : ∀ (n i : Nat) (d : CS) (ℓ' : LB), t.length + 1 - i = n → i ≤ t.length + 1 → ∀ s : AS, (i ≤ t.length → s = asn t i) → (i = t.length + 1 → s = ap t (asn t t.length) t.length) → RP d ℓ' p st en pl src t (ppA t s.2.2).1 (ppA t s.2.2).2 → FS (SP ℓ p) ℓ ℓ' c d → yU d ≤ yU c → CW g B O 20 22 [some (.ref p), some (.ref src), some (.int (iI s.2.1)), some (.int (iI s.1)), some (.int (iI i))] [] d Q := by
    intro n
    induction n with
    | zero =>
      intro i d ℓ' n1 n2 s hs1 hs2 hd hF hUd
      have hi : i = t.length + 1 := by omega
      have hsr := hs2 hi
      have h1 := asn_ok t t.length
      have h2 := ap_ok h1
      rw [← hsr] at h2
      have hk := hd.1.2.1
      subst hi
      refine c20_22 ?_ (hx2 := by have := h2.1; have := h2.2.1; omega) (hx3 := by have := h2.2.1; omega)
      rw [hk.2.1]
      exact ⟨hk.1, fun _ => ⟨hk.1, hd.1.1.1, last d ℓ' s hsr hd hF hUd⟩, fun q => by omega⟩
    | succ n ih =>
      intro i d ℓ' n1 n2 s hs1 hs2 hd hF hUd
      have hsr := hs1 (by omega)
      have h1 := asn_ok t i
      have hAR := asn_AR t i
      rw [← hsr] at h1 hAR
      have hk := hd.1.2.1
      have esg : sg (yT d src) i = t.getD i 0 := by rw [hk.2.1, sg_nat]
      -- behind a blank, or at the end
      have sep : (i < t.length → t.getD i 0 = 32) → CW g B O 20 51 [some (.ref p), some (.ref src), some (.int (iI s.2.1)), some (.int (iI s.1)), some (.int (iI i))] [] d Q := fun hb => by
        have nxt : ∀ (d' : CS) (ℓ2 : LB) (s' : AS), s' = ap t s i → RP d' ℓ2 p st en pl src t (ppA t s'.2.2).1 (ppA t s'.2.2).2 → FS (SP ℓ p) ℓ ℓ2 c d' → yU d' ≤ yU c → CW g B O 20 70 [some (.ref p), some (.ref src), some (.int (iI s'.2.1)), some (.int (iI s.1)), some (.int (iI i))] [] d' Q := fun d' ℓ2 s' hs' hd' hF' hU' => by
          have e1 : s'.1 = i + 1 := by rw [hs']; unfold ap; split <;> rfl
          have e2 := ap_pf (t := t) hAR h1.2.1
          rw [← hs'] at e2
          have := ih (i + 1) d' ℓ2 (by omega) (by omega) s' (fun q => by
            rw [hs', hsr]
            show _ = (if t.getD i 0 = 32 then ap t (asn t i) i else asn t i)
            rw [if_pos (hb (by omega))]) (fun q => by rw [hs', hsr, show i = t.length by omega]) hd' hF' hU'
          rw [e1] at this
          exact c20_70 ⟨by omega, c20_75 ⟨by omega, this⟩⟩
        refine c20_51 ⟨hd.1.1.1, t21 hd.1.1.1 hd.1.1.2.1 hk.1 hk.2.1 (by have := h1.2.1; omega) (fun q => c20_58 ⟨fun r => by omega, fun _ => ⟨hd.1.1.1, ?_⟩⟩ (hx2 := by have := h1.1; have := h1.2.1; omega) (hx3 := by have := h1.2.1; omega)) (fun q => c20_58 ⟨fun _ => ?_, fun r => absurd rfl r⟩ (hx2 := by have := h1.1; have := h1.2.1; omega) (hx3 := by have := h1.2.1; omega))⟩ (hx2 := by have := h1.1; have := h1.2.1; omega) (hx3 := by have := h1.2.1; omega)
        · refine t22 ht ⟨h1.1, by have := h1.2.1; omega⟩ hd h1.2.2.1.1 (ppA_le t _) (by omega) (fun d2 ℓ2 r1 r2 r3 => c20_67 ?_)
          have e3 : ap t s i = (i + 1, i, s.2.2 ++ [(s.2.1, s.1)]) := ap_yes q
          have := nxt d2 ℓ2 (ap t s i) rfl (by rw [e3]; show RP d2 ℓ2 p st en pl src t (ppA t (s.2.2 ++ [(s.2.1, s.1)])).1 (ppA t (s.2.2 ++ [(s.2.1, s.1)])).2; rw [ppA_snoc]; exact r1) (hF.then' r2) (by omega)
          rw [e3] at this
          exact this
        · have e3 : ap t s i = (i + 1, s.2.1, s.2.2) := ap_no q
          have := nxt d ℓ' (ap t s i) rfl (by rw [e3]; exact hd) hF hUd
          rw [e3] at this
          exact this
      refine c20_22 ?_ (hx2 := by have := h1.1; have := h1.2.1; omega) (hx3 := by have := h1.2.1; omega)
      rw [hk.2.1]
      rw [hk.2.1] at esg
      refine ⟨hk.1, fun q => by omega, fun _ => ⟨hk.1, fun q => sep (fun r => by omega), fun q => ⟨hk.1, fun r => ?_, fun r => sep (fun _ => by rw [← esg]; exact r)⟩⟩⟩
      have hnb : ¬ t.getD i 0 = 32 := by rw [← esg]; exact r
      have e4 : asn t (i + 1) = s := by
        rw [hsr]
        show (if t.getD i 0 = 32 then ap t (asn t i) i else asn t i) = _
        rw [if_neg hnb]
      have := ih (i + 1) d ℓ' (by omega) (by omega) s (fun _ => e4.symm) (fun q => by omega) hd hF hUd
      exact c20_75 ⟨by omega, this⟩ (hx2 := by have := h1.1; have := h1.2.1; omega) (hx3 := by have := h1.2.1; omega)
  exact step _ 0 d5 ℓ rfl (Nat.zero_le _) (0, 0, []) (fun _ => rfl) (fun q => by omega) hR hF5 (by omega)
/-- new Persons() -/
theorem t18 (hK : yK c p = 5) (hU : yU c + 19700 ≤ B) (h : ∀ d ℓ', PsI d ℓ' p → FS (fun a => a = p) ℓ ℓ' c d → yU d ≤ yU c + 19609 → Q (Sum.inl none) d) : CW g B O 18 0 [some (.ref p)] [] c Q := by
  refine c18_0 ⟨by omega, fun b1 hb1 d2 e2 => ?_⟩
  have n1 : ∀ x, ¬ yK c x = 0 → ¬ x = b1 := fun x hx r => hx (by rw [r]; exact hb1)
  have p1 := n1 p (by omega)
  have k2 : ∀ x, yK d2 x = if x = b1 then 7 else yK c x := fun x => by rw [e2]; rfl
  refine ⟨by rw [k2, if_neg p1]; exact hK, fun d4 e4 => ?_⟩
  have U4 : yU d4 = yU c + 4100 := by rw [e4, e2]; rfl
  have k4 : ∀ x, yK d4 x = if x = b1 then 7 else yK c x := fun x => by rw [e4]; exact k2 x
  have q4 : ∀ x, ¬ x = b1 → ¬ x = p → Kp c d4 x := fun x h1 h2 => by rw [e4, e2]; exact (Kp_wN h1).trans (Kp_wP h2)
  refine ⟨by omega, fun b6 hb6 d7 e7 => ?_⟩
  have n6 : ∀ x, ¬ yK d4 x = 0 → ¬ x = b6 := fun x hx r => hx (by rw [r]; exact hb6)
  have o6 : ∀ x, ¬ yK c x = 0 → ¬ x = b6 := fun x hx => n6 x (by rw [k4, if_neg (n1 x hx)]; exact hx)
  have k7 : ∀ x, yK d7 x = if x = b6 then 101 else yK d4 x := fun x => by rw [e7]; rfl
  refine ⟨by rw [k7, if_neg (o6 p (by omega)), k4, if_neg p1]; exact hK, fun d9 e9 => ?_⟩
  have U9 : yU d9 = yU c + 4148 := by rw [e9, e7]; show yU d4 + 48 = _; omega
  have k9 : ∀ x, yK d9 x = if x = b6 then 101 else yK d4 x := fun x => by rw [e9]; exact k7 x
  have q9 : ∀ x, ¬ x = b6 → ¬ x = p → Kp d4 d9 x := fun x h1 h2 => by rw [e9, e7]; exact (Kp_wN h1).trans (Kp_wP h2)
  refine ⟨by omega, fun b11 hb11 d12 e12 => ?_⟩
  have n11 : ∀ x, ¬ yK d9 x = 0 → ¬ x = b11 := fun x hx r => hx (by rw [r]; exact hb11)
  have k9c : ∀ x, ¬ yK c x = 0 → yK d9 x = yK c x := fun x hx => by rw [k9, if_neg (o6 x hx), k4, if_neg (n1 x hx)]
  have o11 : ∀ x, ¬ yK c x = 0 → ¬ x = b11 := fun x hx => n11 x (by rw [k9c x hx]; exact hx)
  have k12 : ∀ x, yK d12 x = if x = b11 then 101 else yK d9 x := fun x => by rw [e12]; rfl
  refine ⟨by rw [k12, if_neg (o11 p (by omega)), k9c p (by omega)]; exact hK, fun d14 e14 => ?_⟩
  have k14 : ∀ x, yK d14 x = if x = b11 then 101 else yK d9 x := fun x => by rw [e14]; exact k12 x
  refine ⟨by rw [k14, if_neg (o11 p (by omega)), k9c p (by omega)]; exact hK, fun d16 e16 => ?_⟩
  have U16 : yU d16 = yU c + 4196 := by rw [e16, e14, e12]; show yU d9 + 48 = _; omega
  have k16 : ∀ x, yK d16 x = if x = b11 then 101 else yK d9 x := fun x => by rw [e16]; exact k14 x
  have q16 : ∀ x, ¬ x = b11 → ¬ x = p → Kp d9 d16 x := fun x h1 h2 => by rw [e16, e14, e12]; exact (Kp_wN h1).trans ((Kp_wP h2).trans (Kp_wI h2))
  refine ⟨by omega, fun b18 hb18 d19 e19 => ?_⟩
  have n18 : ∀ x, ¬ yK d16 x = 0 → ¬ x = b18 := fun x hx r => hx (by rw [r]; exact hb18)
  have k16c : ∀ x, ¬ yK c x = 0 → yK d16 x = yK c x := fun x hx => by rw [k16, if_neg (o11 x hx), k9c x hx]
  have o18 : ∀ x, ¬ yK c x = 0 → ¬ x = b18 := fun x hx => n18 x (by rw [k16c x hx]; exact hx)
  have k19 : ∀ x, yK d19 x = if x = b18 then 1 else yK d16 x := fun x => by rw [e19]; rfl
  refine ⟨by rw [k19, if_neg (o18 p (by omega)), k16c p (by omega)]; exact hK, fun d21 e21 => ?_⟩
  have U21 : yU d21 = yU c + 19596 := by rw [e21, e19]; show yU d16 + 15400 = _; omega
  have k21 : ∀ x, yK d21 x = if x = b18 then 1 else yK d16 x := fun x => by rw [e21]; exact k19 x
  have q21 : ∀ x, ¬ x = b18 → ¬ x = p → Kp d16 d21 x := fun x h1 h2 => by rw [e21, e19]; exact (Kp_wN h1).trans (Kp_wP h2)
  refine ⟨by omega, fun b23 hb23 d24 e24 => ?_⟩
  have n23 : ∀ x, ¬ yK d21 x = 0 → ¬ x = b23 := fun x hx r => hx (by rw [r]; exact hb23)
  have k21c : ∀ x, ¬ yK c x = 0 → yK d21 x = yK c x := fun x hx => by rw [k21, if_neg (o18 x hx), k16c x hx]
  have o23 : ∀ x, ¬ yK c x = 0 → ¬ x = b23 := fun x hx => n23 x (by rw [k21c x hx]; exact hx)
  have k24b : yK d24 b23 = 4 := by rw [e24, yK_wN, if_pos rfl]
  refine t16 k24b (fun d25 e25 => ?_)
  have q25 : ∀ x, ¬ x = b23 → Kp d21 d25 x := fun x hx => by
    rw [e25, e24]
    exact (Kp_wN hx).trans ((Kp_wI hx).trans ((Kp_wI hx).trans ((Kp_wI hx).trans ((Kp_wI hx).trans (Kp_wI hx)))))
  have k25 : ∀ x, yK d25 x = if x = b23 then 4 else yK d21 x := fun x => by rw [e25, e24]; rfl
  have U25 : yU d25 = yU c + 19609 := by rw [e25, e24]; show yU d21 + 13 = _; omega
  have k25p : yK d25 p = 5 := by rw [k25, if_neg (o23 p (by omega)), k21c p (by omega)]; exact hK
  refine c18_55 ⟨k25p, fun d26 e26 => ⟨by rw [e26]; exact k25p, fun d28 e28 => ?_⟩⟩
  have q28 : ∀ x, ¬ x = p → Kp d25 d28 x := fun x hx => by rw [e28, e26]; exact (Kp_wP hx).trans (Kp_wI hx)
  have k28 : ∀ x, yK d28 x = yK d25 x := fun x => by rw [e28, e26]; rfl
  have U28 : yU d28 = yU c + 19609 := by rw [e28, e26]; exact U25
  -- the new addresses are apart
  have a6 : yK d9 b6 = 101 := by rw [k9, if_pos rfl]
  have m11_6 : ¬ b6 = b11 := n11 b6 (by omega)
  have a16_6 : yK d16 b6 = 101 := by rw [k16, if_neg m11_6]; exact a6
  have a16_11 : yK d16 b11 = 101 := by rw [k16, if_pos rfl]
  have m18_6 := n18 b6 (by omega)
  have m18_11 := n18 b11 (by omega)
  have a21_6 : yK d21 b6 = 101 := by rw [k21, if_neg m18_6]; exact a16_6
  have a21_11 : yK d21 b11 = 101 := by rw [k21, if_neg m18_11]; exact a16_11
  have a21_18 : yK d21 b18 = 1 := by rw [k21, if_pos rfl]
  have m23_6 := n23 b6 (by omega)
  have m23_11 := n23 b11 (by omega)
  have m23_18 := n23 b18 (by omega)
  have p6 : ¬ b6 = p := fun r => o6 p (by omega) r.symm
  have p11 : ¬ b11 = p := fun r => o11 p (by omega) r.symm
  have p18 : ¬ b18 = p := fun r => o18 p (by omega) r.symm
  -- all at the end
  have K6 : Kp d9 d28 b6 := (q16 b6 m11_6 p6).trans ((q21 b6 m18_6 p6).trans ((q25 b6 m23_6).trans (q28 b6 p6)))
  have K11 : Kp d16 d28 b11 := (q21 b11 m18_11 p11).trans ((q25 b11 m23_11).trans (q28 b11 p11))
  have K18 : Kp d21 d28 b18 := (q25 b18 m23_18).trans (q28 b18 p18)
  have Pp : ∀ j : Int, ¬ j = 5 → yP d28 p j = yP d21 p j := fun j hj => by
    rw [e28, e26]
    show yP (wP d25 p 5 (some b23)) p j = _
    rw [yP_wP, if_neg (fun q => hj q.2), (q25 p (o23 p (by omega))).2.2.1]
  have Pp4 : yP d21 p 4 = some b18 := by rw [e21, yP_wP, if_pos ⟨rfl, rfl⟩]
  have Pp21 : ∀ j : Int, ¬ j = 4 → yP d21 p j = yP d16 p j := fun j hj => by
    rw [e21, yP_wP, if_neg (fun q => hj q.2), e19, (Kp_wN (c := d16) (b := p) (a := b18) (fun r => p18 r.symm)).2.2.1]
  have Pp16 : ∀ j : Int, yP d16 p j = if j = 2 then some b11 else yP d9 p j := fun j => by
    rw [e16]
    show yP d14 p j = _
    rw [e14, yP_wP]
    by_cases q : j = 2
    · rw [if_pos ⟨rfl, q⟩, if_pos q]
    · rw [if_neg (fun r => q r.2), if_neg q, e12, (Kp_wN (c := d9) (b := p) (a := b11) (fun r => p11 r.symm)).2.2.1]
  have Pp9 : yP d9 p 1 = some b6 := by rw [e9, yP_wP, if_pos ⟨rfl, rfl⟩]
  have I6 : yI d9 b6 (-1) = 40 := by rw [e9]; show yI d7 b6 (-1) = 40; rw [e7, yI_wN, if_pos rfl, if_pos rfl]
  have I11 : yI d16 b11 (-1) = 40 := by rw [e16, yI_wI, if_neg (fun q => p11 q.1), e14]; show yI d12 b11 (-1) = 40; rw [e12, yI_wN, if_pos rfl, if_pos rfl]
  have E18 : yE d21 b18 = [] := by rw [e21]; show yE d19 b18 = []; rw [e19, yE_wN, if_pos rfl]
  refine h d28 (upL (upL (upL ℓ b6 (p, 1)) b11 (p, 2)) b18 (p, 3)) ⟨by rw [k28]; exact k25p, b6, b11, b18, ⟨?_, ?_, ?_⟩, ⟨by rw [K6.1]; exact a6, by rw [K6.2.1]; exact I6, ?_⟩, ⟨by rw [K11.1]; exact a16_11, by rw [K11.2.1]; exact I11, ?_⟩, by rw [K18.1]; exact a21_18, upL_eq, by rw [K18.2.2.2.2, E18]; exact Nat.zero_le _, fun i hi => ?_⟩ ⟨fun x hx => ⟨?_, ?_⟩, fun x hx hS => ?_⟩ (by omega)
  · rw [Pp 1 (by decide), Pp21 1 (by decide), Pp16, if_neg (by decide)]; exact Pp9
  · rw [Pp 2 (by decide), Pp21 2 (by decide), Pp16, if_pos rfl]
  · rw [Pp 4 (by decide)]; exact Pp4
  · rw [upL_ne m18_6, upL_ne m11_6, upL_eq]
  · rw [upL_ne m18_11, upL_eq]
  · rw [K18.2.2.2.2, E18] at hi
    exact absurd hi (Nat.not_lt_zero _)
  · rw [k28, k25, if_neg (o23 x hx), k21c x hx]
  · rw [upL_ne (o18 x hx), upL_ne (o11 x hx), upL_ne (o6 x hx)]
  · exact (q4 x (n1 x hx) hS).trans ((q9 x (o6 x hx) hS).trans ((q16 x (o11 x hx) hS).trans ((q21 x (o18 x hx) hS).trans ((q25 x (o23 x hx)).trans (q28 x hS)))))
end CRead2
