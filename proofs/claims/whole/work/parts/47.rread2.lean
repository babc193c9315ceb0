abbrev li (x : Int) : Option Value := some (.int (iI x))
theorem mem_gD {α : Type} {l : List α} {d : α} {i : Nat} (h : i < l.length) : l.getD i d ∈ l := by
  rw [List.getD_eq_getElem?_getD, List.getElem?_eq_getElem h]
  exact List.getElem_mem h
theorem rg_WOK {t : List Int} {f e : Nat} (h : f ≤ e) (he : e ≤ t.length) : WOK t (rgW t f e) := fun k hk => by
  have := (rg_ok (t := t) h).2.1 _ (mem_gD (d := (0, 0)) hk)
  omega
/-- the head of the reading loop -/
def hS (t : List Int) (k : Nat) : AS := ap t (asn t k) k
theorem hS_ok (t : List Int) (k : Nat) (hk : k ≤ t.length) (ht : t.length ≤ 80) : (hS t k).2.1 ≤ k ∧ (tgA t (hS t k).2.2).2.length + (rgW t (hS t k).2.1 k).length ≤ 41 ∧ (ppA t (hS t k).2.2).2.length ≤ 41 ∧ (tgA t (hS t k).2.2).2.length = (ppA t (hS t k).2.2).1.length := by
  have h1 := asn_ok t k
  have h2 := ap_ok h1
  have h3 := ap_pf (t := t) (asn_AR t k) h1.2.1
  have h4 := rg_ok (t := t) h3
  have h5 := tgA_len (t := t) (ap_AR (t := t) (i := k) (asn_AR t k) h1.2.1).2
  have h6 := ppA_le t (hS t k).2.2
  unfold hS at h6 ⊢
  have h7 := h2.2.2.1
  have h8 := h4.1
  exact ⟨h3, by omega, by omega, h5⟩
theorem asn_same {t : List Int} {k : Nat} : ∀ {e : Nat}, k ≤ e → (∀ j, k ≤ j → j < e → ¬ t.getD j 0 = 32) → asn t e = asn t k
  | 0, h, _ => by rw [show k = 0 by omega]
  | e + 1, h, hn => by
    by_cases q : k = e + 1
    · rw [q]
    · show (if t.getD e 0 = 32 then ap t (asn t e) e else asn t e) = _
      rw [if_neg (hn e (by omega) (by omega))]
      exact asn_same (by omega) (fun j q1 q2 => hn j q1 (by omega))
theorem ap_no {t : List Int} {s : AS} {i : Nat} (h : ¬ isA t s.1 i) : ap t s i = (i + 1, s.2.1, s.2.2) := if_neg h
theorem ap_yes {t : List Int} {s : AS} {i : Nat} (h : isA t s.1 i) : ap t s i = (i + 1, i, s.2.2 ++ [(s.2.1, s.1)]) := if_pos h
theorem psh_self {i : Nat} {W : List Wd} : psh i i W = W := if_neg (Nat.lt_irrefl i)
theorem scn_next {t : List Int} {f i : Nat} (h : f ≤ i) : scn t f (i + 1 - f) = sp t (scn t f (i - f)) i := by
  rw [show i + 1 - f = (i - f) + 1 by omega, scn_s, show f + (i - f) = i by omega]
/-- over a blank -/
theorem hS_b {t : List Int} {k : Nat} (h : t.getD k 0 = 32) : (hS t (k + 1)).2 = (hS t k).2 ∧ (asn t (k + 1)).1 = k + 1 ∧ rgW t (hS t k).2.1 (k + 1) = rgW t (hS t k).2.1 k ∧ rgB t (hS t k).2.1 (k + 1) = rgB t (hS t k).2.1 k ∧ (scn t (hS t k).2.1 (k + 1 - (hS t k).2.1)).1 = k + 1 := by
  have e1 : asn t (k + 1) = hS t k := by show (if t.getD k 0 = 32 then ap t (asn t k) k else asn t k) = _; rw [if_pos h]; rfl
  have e2 : (hS t k).1 = k + 1 := by unfold hS ap; split <;> rfl
  have h3 := ap_pf (t := t) (asn_AR t k) (asn_ok t k).2.1
  have e3 : scn t (hS t k).2.1 (k + 1 - (hS t k).2.1) = (k + 1, rgW t (hS t k).2.1 k, rgB t (hS t k).2.1 k) := by
    rw [scn_next (by exact h3), sp_b h]
    rfl
  refine ⟨?_, by rw [e1, e2], ?_, ?_, by rw [e3]⟩
  · show (ap t (asn t (k + 1)) (k + 1)).2 = _
    rw [e1, ap_no (by rw [e2]; intro q; have := q.1; omega)]
  · show psh (scn t (hS t k).2.1 (k + 1 - (hS t k).2.1)).1 (k + 1) (scn t (hS t k).2.1 (k + 1 - (hS t k).2.1)).2.1 = _
    rw [e3]
    exact psh_self
  · show (scn t (hS t k).2.1 (k + 1 - (hS t k).2.1)).2.2 = _
    rw [e3]
theorem hS_at {t : List Int} {k : Nat} (h : (asn t k).1 = k) : hS t k = (k + 1, (asn t k).2.1, (asn t k).2.2) := by
  unfold hS
  exact ap_no (by rw [h]; intro q; have := q.1; omega)
section RRead2
variable {g : Nat → Nat} {C S m : Nat} {A : Nat → Nat} {v v0 : VS} {Q : Rs → VS → Prop} {b : Int} {t : List Int} {D : Db}
abbrev lo (m : Nat) (b : Int) (l2 l3 : Option Value) (n x6 x7 : Int) (l8 l9 l10 l11 l12 l13 : Option Value) : LV := [some (.ref m), li b, l2, l3, li n, li (80 * b), li x6, li x7, l8, l9, l10, l11, l12, l13]
/-- where a token's end or a comma is: the word goes to the others -/
theorem s110p {T : List TWd} {P : Nat} {W : List Wd} {l2 l3 l8 l10 : Option Value} {n x6 x7 x9 x13 : Int} {a i : Nat} (hb : b = 0 ∨ b = 1) (hI : RdI v b t T P W) (hn : T.length + W.length < 64) (hP : P ≤ 100) (hai : a ≤ 81 ∧ i ≤ 80) (hr : (0 ≤ n ∧ n ≤ 100) ∧ (0 ≤ x6 ∧ x6 ≤ 100) ∧ (-1 ≤ x7 ∧ x7 ≤ 100) ∧ (0 ≤ x9 ∧ x9 ≤ 100) ∧ (0 ≤ x13 ∧ x13 ≤ 1))
    (h : ∀ w {l10 : Option Value}, RdI w b t T P (psh a i W) → FrB b v w → RW g C S m A 110 328 (lo m b l2 l3 n x6 x7 l8 (li x9) l10 (li (i + 1 : Nat)) (li i) (li x13)) [] w Q) : RW g C S m A 110 300 (lo m b l2 l3 n x6 x7 l8 (li x9) l10 (li a) (li i) (li x13)) [] v Q := by
  obtain ⟨r1, r2, r3, r4, r5⟩ := hr
  refine v110_300 ⟨fun q => v110_322 ⟨by omega, ?_⟩, fun q => ⟨by omega, by omega, s108 hb hI hn hP (by omega) (fun w hw hf => v110_322 ⟨by omega, ?_⟩)⟩⟩
  · refine h v ?_ FrB.rfl
    unfold psh
    rw [if_neg (by omega)]
    exact hI
  · refine h w ?_ hf
    unfold psh
    rw [if_pos (by omega)]
    exact hw
/-- the characters of a token, to its end -/
theorem s110t {T : List TWd} {P pf k en : Nat} (hb : b = 0 ∨ b = 1) (ht : t.length ≤ 80) (hP : P ≤ 41) (hpf : pf ≤ k) (hke : k ≤ en ∧ en ≤ t.length) (hT : 2 * T.length ≤ pf) (hno : ∀ j, k ≤ j → j < en → ¬ t.getD j 0 = 32)
    (h : ∀ (w : VS) {l2 l3 l10 l11 l12 l13 : Option Value}, RdI w b t T P (rgW t pf en) → FrB b v0 w → RW g C S m A 110 91 (lo m b l2 l3 t.length T.length (cro (rgB t pf en)) (li en) (li en) l10 l11 l12 l13) [] w Q) :
    ∀ (n i : Nat) (u : VS) {l2 l3 l8 l10 l13 : Option Value}, en - i = n → k ≤ i → i ≤ en → RdI u b t T P (scn t pf (i - pf)).2.1 → FrB b v0 u → RW g C S m A 110 252 (lo m b l2 l3 t.length T.length (cro (scn t pf (i - pf)).2.2) l8 (li en) l10 (li (scn t pf (i - pf)).1) (li i) l13) [] u Q := by
  have hcro : ∀ i, pf ≤ i → i ≤ en → -1 ≤ cro (scn t pf (i - pf)).2.2 ∧ cro (scn t pf (i - pf)).2.2 ≤ 80 ∧ (scn t pf (i - pf)).1 ≤ i ∧ T.length + (scn t pf (i - pf)).2.1.length ≤ 41 ∧ T.length + (psh (scn t pf (i - pf)).1 i (scn t pf (i - pf)).2.1).length ≤ 41 := fun i hi1 hi2 => by
    have hk := scn_ok' (t := t) hi1
    have hk2 := psh_ok hk
    obtain ⟨q1, q2, q3, q4⟩ := hk
    have : -1 ≤ cro (scn t pf (i - pf)).2.2 ∧ cro (scn t pf (i - pf)).2.2 ≤ 80 := by
      cases hB : (scn t pf (i - pf)).2.2 with
      | none => exact ⟨by decide, by decide⟩
      | some M =>
        have := q4 M hB
        show -1 ≤ (M : Int) ∧ (M : Int) ≤ 80
        omega
    omega
  intro n
  induction n with
  | zero =>
    intro i u l2 l3 l8 l10 l13 e1 e2 e3 hI hf
    obtain ⟨c1, c2, c3, c4, c5⟩ := hcro i (by omega) (by omega)
    have hie : i = en := by omega
    subst hie
    refine v110_252 ⟨fun q => by omega, fun _ => ⟨fun _ => v110_285 (v110_286 ⟨fun q => absurd rfl q, fun _ => ⟨fun q => absurd rfl q, fun _ => ?_⟩⟩), fun q => by omega⟩⟩
    refine s110p hb hI (by omega) (by omega) (by omega) (by omega) (fun w l10 hw hf2 => v110_328 ⟨fun _ => v110_350 ⟨by omega, v110_252 ⟨fun _ => v110_356 ?_, fun q => by omega⟩⟩, fun q => absurd rfl q⟩)
    exact h w hw (hf.trans hf2)
  | succ n ih =>
    intro i u l2 l3 l8 l10 l13 e1 e2 e3 hI hf
    obtain ⟨c1, c2, c3, c4, c5⟩ := hcro i (by omega) (by omega)
    have h13 := hI.2.2.1 i (by omega)
    have hnb := hno i e2 (by omega)
    have hnx := scn_next (t := t) (f := pf) (i := i) (by omega)
    refine v110_252 ⟨fun q => by omega, fun _ => ⟨fun q => by omega, fun _ => ⟨by omega, by omega, fun q => ?_, fun q => ?_⟩⟩⟩
    · rw [h13] at q
      rw [sp_o hnb q] at hnx
      have := ih (i + 1) u (l2 := l2) (l3 := l3) (l8 := l8) (l10 := l10) (l13 := some (.int (iI 0))) (by omega) (by omega) (by omega) (by rw [hnx]; exact hI) hf
      rw [hnx] at this
      exact v110_285 (v110_286 ⟨fun q => absurd rfl q, fun _ => ⟨fun _ => v110_328 ⟨fun _ => v110_350 ⟨by omega, this⟩, fun q => absurd rfl q⟩, fun q => by omega⟩⟩)
    · rw [h13] at q
      rw [sp_c q] at hnx
      refine v110_286 ⟨fun _ => ?_, fun q => by omega⟩
      refine s110p hb hI (by omega) (by omega) (by omega) (by omega) (fun w l10 hw hf2 => ?_)
      have := fun l2 l3 l8 l10 l13 => ih (i + 1) w (l2 := l2) (l3 := l3) (l8 := l8) (l10 := l10) (l13 := l13) (by omega) (by omega) (by omega) (by rw [hnx]; exact hw) (hf.trans hf2)
      rw [hnx] at this
      have hw14 := hw.1
      refine v110_328 ⟨fun q => by omega, fun _ => ⟨fun q => v110_350 ⟨by omega, ?_⟩, fun q => ⟨by omega, ?_, v110_350 ⟨by omega, ?_⟩⟩⟩⟩
      · cases hB : (scn t pf (i - pf)).2.2 with
        | none => rw [hB] at q; exact absurd rfl q
        | some M =>
          rw [hB] at this
          exact this _ _ _ _ _
      · have := hw.1
        omega
      · cases hB : (scn t pf (i - pf)).2.2 with
        | some M => rw [hB] at q; have q : (M : Int) = -1 := q; omega
        | none =>
          rw [hB] at this
          have e14 := hw.1
          rw [show w 14 b - (T.length : Int) = ((psh (scn t pf (i - pf)).1 i (scn t pf (i - pf)).2.1).length : Int) by omega]
          exact this _ _ _ _ _
/-- the loop over the text -/
theorem s110h (hb : b = 0 ∨ b = 1) (ht : t.length ≤ 80) (hv0 : Hd (v0 13) (80 * b) t) (h : ∀ w, WdR w b (tgs t) → w 19 b = np t → FrB b v0 w → Q (Sum.inl none) w) :
    ∀ (n k : Nat) (u : VS) {l2 l3 l9 l10 l11 l12 l13 : Option Value}, t.length - k = n → k ≤ t.length → (k = t.length ∨ t.getD k 0 = 32 ∨ ((asn t k).1 = k ∧ (scn t (hS t k).2.1 (k - (hS t k).2.1)).1 = k)) → RdI u b t (tgA t (hS t k).2.2).2 (ppA t (hS t k).2.2).2.length (rgW t (hS t k).2.1 k) → FrB b v0 u → RW g C S m A 110 91 (lo m b l2 l3 t.length (tgA t (hS t k).2.2).2.length (cro (rgB t (hS t k).2.1 k)) (li k) l9 l10 l11 l12 l13) [] u Q := by
  intro n
  induction n using Nat.strongRecOn with
  | ind n ih =>
    intro k u l2 l3 l9 l10 l11 l12 l13 e1 e2 e3 hI hf
    obtain ⟨b1, b2, b3, b4⟩ := hS_ok t k e2 ht
    have hro := rg_ok (t := t) b1
    have hAO := (ap_ok (asn_ok t k)).2.2.1
    have hWt := rg_WOK (t := t) b1 e2
    have hcb : -1 ≤ cro (rgB t (hS t k).2.1 k) ∧ cro (rgB t (hS t k).2.1 k) ≤ 80 := by
      cases hB : rgB t (hS t k).2.1 k with
      | none => exact ⟨by decide, by decide⟩
      | some M =>
        have := hro.2.2 M hB
        show -1 ≤ (M : Int) ∧ (M : Int) ≤ 80
        omega
    by_cases hk : k = t.length
    · -- the end
      refine v110_91 ⟨fun _ => ?_, fun q => by omega⟩
      have hreg : regs t = (hS t k).2.2 ++ [((hS t k).2.1, k)] := by rw [hk]; rfl
      have hpl := ppl_len t
      have fin : ∀ (w : VS) (T : List TWd) (P : Nat), T = tgs t → P = np t → RdI w b t T P [] → FrB b v0 w → Q (Sum.inl none) w := fun w T P hT hP hw hfw => by
        obtain ⟨w14, w19, -, wT, -⟩ := hw
        refine h w ⟨hb, ?_, ?_, fun i hi => ?_⟩ (by rw [w19, hP]) hfw
        · rw [w14, hT]; show _ + ((0 : Nat) : Int) = _; omega
        · have := (tgs_ok t).1
          rw [tgA_fst] at this
          have this : (tgs t).length = (ppl t).1.length := this
          omega
        · rw [← hT] at hi ⊢
          exact wT i hi
      refine s109 hb hI hWt ht (by omega) (by omega) hro.2.2 (fun hW => v110_372 ?_) (fun hW w hw hf2 => v110_372 ?_)
      · refine fin u _ _ ?_ ?_ (by rw [hW] at hI; exact hI) hf
        · unfold tgs
          rw [hreg, tgA_snoc]
          unfold adT
          dsimp only
          rw [if_pos hW]
        · unfold np ppl
          rw [hreg, ppA_snoc]
          unfold adR
          dsimp only
          rw [if_pos hW]
      · refine fin w _ _ ?_ ?_ hw (hf.trans hf2)
        · unfold tgs
          rw [hreg, tgA_snoc]
          unfold adT
          dsimp only
          rw [if_neg hW, tgA_fst]
        · unfold np ppl
          rw [hreg, ppA_snoc]
          unfold adR
          dsimp only
          rw [if_neg hW, List.length_append]
          rfl
    · have h13 := hI.2.2.1 k (by omega)
      refine v110_91 ⟨fun q => by omega, fun _ => ⟨by omega, by omega, fun q => ?_, fun q => ⟨by omega, ?_⟩⟩⟩
      · rw [h13] at q
        obtain ⟨ha, hs⟩ := (e3.resolve_left hk).resolve_left q
        have hSa := hS_at (t := t) ha
        -- the token's end
        have key : ∀ (n j : Nat) {l2 l3 l10 l11 l12 l13 : Option Value}, t.length - j = n → k ≤ j → j ≤ t.length → (∀ i, k ≤ i → i < j → ¬ t.getD i 0 = 32) → RW g C S m A 110 123 (lo m b l2 l3 t.length (tgA t (hS t k).2.2).2.length (cro (rgB t (hS t k).2.1 k)) (li k) (li j) l10 l11 l12 l13) [] u Q := by
          have tok : ∀ (en : Nat) {l2 l3 l10 l11 l12 l13 : Option Value}, k < en → en ≤ t.length → (∀ i, k ≤ i → i < en → ¬ t.getD i 0 = 32) → (en = t.length ∨ t.getD en 0 = 32) → RW g C S m A 110 151 (lo m b l2 l3 t.length (tgA t (hS t k).2.2).2.length (cro (rgB t (hS t k).2.1 k)) (li k) (li en) l10 l11 l12 l13) [] u Q := by
            intro en l2 l3 l10 l11 l12 l13 t1 t2 t3 t4
            have hsame := asn_same (t := t) (k := k) (e := en) (by omega) t3
            have hA : ∀ j, k + j < t.length → u 13 (80 * b + k + j) = t.getD (k + j) 0 := fun j hj => by
              have := hI.2.2.1 (k + j) hj
              rw [← this]
              congr 1
              omega
            have no : ¬ isA t k en → RW g C S m A 110 213 (lo m b l2 l3 t.length (tgA t (hS t k).2.2).2.length (cro (rgB t (hS t k).2.1 k)) (li k) (li en) l10 l11 l12 l13) [] u Q := fun hn => by
              have he : hS t en = (en + 1, (hS t k).2.1, (hS t k).2.2) := by
                show ap t (asn t en) en = _
                rw [hsame, ap_no (by rw [ha]; exact hn), hSa]
              refine v110_213 (v110_214 ⟨fun _ => ?_, fun q => absurd rfl q⟩)
              have hI2 : RdI u b t (tgA t (hS t k).2.2).2 (ppA t (hS t k).2.2).2.length (scn t (hS t k).2.1 (k - (hS t k).2.1)).2.1 := by
                have : rgW t (hS t k).2.1 k = (scn t (hS t k).2.1 (k - (hS t k).2.1)).2.1 := by unfold rgW; rw [hs]; exact psh_self
                rw [← this]; exact hI
              have := s110t (g := g) (C := C) (S := S) (m := m) (A := A) (Q := Q) (v0 := v0) hb ht b3 b1 ⟨by omega, t2⟩ (by rw [b4]; exact hAO.1) t3 (fun w l2 l3 l10 l11 l12 l13 hw hfw => by
                have := ih (t.length - en) (by omega) en w (l2 := l2) (l3 := l3) (l9 := li en) (l10 := l10) (l11 := l11) (l12 := l12) (l13 := l13) rfl t2 (t4.imp id Or.inl) (by rw [he]; exact hw) hfw
                rw [he] at this
                exact this) _ k u (l2 := l2) (l3 := l3) (l8 := li k) (l10 := li 0) (l13 := l13) rfl (Nat.le_refl _) (by omega) hI2 hf
              rw [hs] at this
              exact this
            have yes : isA t k en → RW g C S m A 110 214 (lo m b l2 l3 t.length (tgA t (hS t k).2.2).2.length (cro (rgB t (hS t k).2.1 k)) (li k) (li en) l10 l11 l12 l13) [.int (iI 1)] u Q := fun hy => by
              have he : hS t en = (en + 1, en, (hS t k).2.2 ++ [((hS t k).2.1, k)]) := by
                show ap t (asn t en) en = _
                rw [hsame, ap_yes (by rw [ha]; exact hy), hSa, ha]
              have fin : ∀ (w : VS) (T : List TWd) (P : Nat) {l2 l3 l8 l10 l11 l12 l13 : Option Value}, T = (tgA t ((hS t k).2.2 ++ [((hS t k).2.1, k)])).2 → P = (ppA t ((hS t k).2.2 ++ [((hS t k).2.1, k)])).2.length → RdI w b t T P [] → FrB b v0 w → RW g C S m A 110 230 (lo m b l2 l3 t.length (tgA t (hS t k).2.2).2.length (cro (rgB t (hS t k).2.1 k)) l8 (li en) l10 l11 l12 l13) [] w Q := fun w T P l2 l3 l8 l10 l11 l12 l13 hT hP hw hfw => by
                have h14 := hw.1
                have h14 : w 14 b = T.length := by rw [h14]; show _ + ((0 : Nat) : Int) = _; omega
                have hTl : T.length ≤ 80 := by
                  have := (hS_ok t en t2 ht).2.1
                  rw [he] at this
                  rw [hT]
                  dsimp only at this
                  omega
                refine v110_230 ⟨by omega, v110_356 ?_⟩ 
                have hw2 : rgW t en en = [] := by unfold rgW; rw [Nat.sub_self]; exact psh_self
                have hb2 : rgB t en en = none := by unfold rgB; rw [Nat.sub_self]; rfl
                have := ih (t.length - en) (by omega) en w (l2 := l2) (l3 := l3) (l9 := li en) (l10 := l10) (l11 := l11) (l12 := l12) (l13 := l13) rfl t2 (t4.imp id Or.inl) (by rw [he, ← hT, ← hP]; dsimp only; rw [hw2]; exact hw) hfw
                rw [he] at this
                dsimp only at this
                rw [hb2, ← hT, ← h14] at this
                exact this
              refine v110_214 ⟨fun q => by omega, fun _ => s109 hb hI hWt ht (by omega) (by omega) hro.2.2 (fun hW => ?_) (fun hW w hw hf2 => ?_)⟩
              · refine fin u _ _ ?_ ?_ (by rw [hW] at hI; exact hI) hf
                · rw [tgA_snoc]
                  unfold adT
                  dsimp only
                  rw [if_pos hW]
                · rw [ppA_snoc]
                  unfold adR
                  dsimp only
                  rw [if_pos hW]
              · refine fin w _ _ ?_ ?_ hw (hf.trans hf2)
                · rw [tgA_snoc]
                  unfold adT
                  dsimp only
                  rw [if_neg hW, tgA_fst]
                · rw [ppA_snoc]
                  unfold adR
                  dsimp only
                  rw [if_neg hW, List.length_append]
                  rfl
            refine v110_151 ⟨by omega, fun r => no (fun s => r (by have := s.1; omega)), fun r => ⟨by omega, by omega, fun r1 => no (fun s => ?_), fun r1 => ⟨by omega, by omega, by omega, fun r2 => no (fun s => ?_), fun r2 => ⟨by omega, by omega, by omega, fun r3 => no (fun s => ?_), fun r3 => yes ⟨by omega, ?_, ?_, ?_⟩⟩⟩⟩⟩
            · rw [h13] at r1; exact r1 s.2.1
            · have := hA 1 (by omega); have r2 : ¬ u 13 (80 * b + k + ((1 : Nat) : Int)) = 110 := r2; rw [this] at r2; exact r2 s.2.2.1
            · have := hA 2 (by omega); have r3 : ¬ u 13 (80 * b + k + ((2 : Nat) : Int)) = 100 := r3; rw [this] at r3; exact r3 s.2.2.2
            · rw [h13] at r1; exact r1
            · have := hA 1 (by omega); have r2 : u 13 (80 * b + k + ((1 : Nat) : Int)) = 110 := r2; rw [this] at r2; exact r2
            · have := hA 2 (by omega); have r3 : u 13 (80 * b + k + ((2 : Nat) : Int)) = 100 := r3; rw [this] at r3; exact r3
          intro n
          induction n with
          | zero =>
            intro j l2 l3 l10 l11 l12 l13 j1 j2 j3 j4
            exact v110_123 ⟨fun _ => tok j (by omega) j3 j4 (Or.inl (by omega)), fun q => by omega⟩
          | succ n ih2 =>
            intro j l2 l3 l10 l11 l12 l13 j1 j2 j3 j4
            have h13 := hI.2.2.1 j (by omega)
            refine v110_123 ⟨fun q => by omega, fun _ => ⟨by omega, by omega, fun r => ?_, fun r => ⟨by omega, ?_⟩⟩⟩
            · rw [h13] at r
              refine tok j ?_ j3 j4 (Or.inr r)
              rcases Nat.lt_or_eq_of_le j2 with s | s
              · exact s
              · rw [← s] at r; exact absurd r q
            · rw [h13] at r
              refine ih2 (j + 1) (by omega) (by omega) (by omega) (fun i i1 i2 => ?_)
              by_cases s : i = j
              · rw [s]; exact r
              · exact j4 i i1 (by omega)
        exact key _ k rfl (Nat.le_refl _) e2 (fun i i1 i2 => by omega)
      · rw [h13] at q
        obtain ⟨c1, c2, c3, c4, c5⟩ := hS_b q
        have := ih (t.length - (k + 1)) (by omega) (k + 1) u (l2 := l2) (l3 := l3) (l9 := l9) (l10 := l10) (l11 := l11) (l12 := l12) (l13 := l13) rfl (by omega) (Or.inr (Or.inr ⟨c2, by rw [c1]; exact c5⟩)) (by rw [c1, c3]; exact hI) hf
        rw [c1, c4] at this
        exact this
theorem s110 {e : Nat} (hD : DOK D) (hv : RDb v D) (he : e < dN D) (hb : b = 0 ∨ b = 1) (h : ∀ w, WdR w b (tgs (val D e 0)) → w 19 b = np (val D e 0) → FrB b v w → Q (Sum.inl none) w) : RW g C S m A 110 0 [some (.ref m), some (.int (iI b)), some (.int (iI e)), none, none, none, none, none, none, none, none, none, none, none] [] v Q := by
  have hlen := (val_ok hD e 0).1
  have hd := hD.1
  refine v110_0 ⟨by omega, fun w2 e2 => ⟨by omega, fun w4 e4 => ?_⟩⟩
  have ko : ∀ j, ¬ j = 14 → ¬ j = 19 → w4 j = v j := fun j q1 q2 => by rw [e4, uv_j q2, e2, uv_j q1]
  have k14 : ∀ x, w4 14 x = if x = b then 0 else v 14 x := fun x => by rw [e4, uv_j (by decide), e2, uv_s]
  have k19 : ∀ x, w4 19 x = if x = b then 0 else v 19 x := fun x => by rw [e4, uv_s, e2, uv_j (by decide)]
  have hf4 : FrB b v w4 := ⟨fun j hj => ko j (by omega) (by omega), fun x _ => by rw [ko 13 (by decide) (by decide)], fun j q1 q2 x _ => by rw [ko j (by omega) (by omega)], fun x hx => ⟨by rw [k14, if_neg hx], by rw [k19, if_neg hx]⟩⟩
  refine s103 (f := 0) hD (hv.fr (fun j j1 j2 => ko j (by omega) (by omega))) he (by decide) (fun r hr => ?_)
  generalize val D e 0 = t at *
  have hr5 : (r = -1 ∧ t = []) ∨ ((0 ≤ r ∧ r < 192) ∧ w4 5 r = t.length ∧ Hd (w4 6) (80 * r) t ∧ t.length ≤ 80) := hr.s
  have start : ∀ {l2 l6 l7 l8 l9 l10 l11 l12 l13 : Option Value}, RW g C S m A 110 47 [some (.ref m), li b, l2, li r, li t.length, li (80 * b), li 0, l7, l8, l9, l10, l11, l12, l13] [] w4 Q := by
    have key : ∀ (n k : Nat) (u : VS) {l2 l7 l8 l9 l10 l11 l12 l13 : Option Value}, t.length - k = n → k ≤ t.length → (∀ j, ¬ j = 13 → u j = w4 j) → (∀ x, (x < 80 * b ∨ 80 * b + 80 ≤ x) → u 13 x = w4 13 x) → (∀ j : Nat, j < k → u 13 (80 * b + j) = t.getD j 0) → RW g C S m A 110 47 [some (.ref m), li b, l2, li r, li t.length, li (80 * b), li k, l7, l8, l9, l10, l11, l12, l13] [] u Q := by
      intro n
      induction n with
      | zero =>
        intro k u l2 l7 l8 l9 l10 l11 l12 l13 k1 k2 k3 k4 k5
        have hfu : FrB b v u := hf4.trans ⟨fun j hj => k3 j (by omega), k4, fun j q1 q2 x _ => by rw [k3 j (by omega)], fun x hx => ⟨by rw [k3 14 (by decide)], by rw [k3 19 (by decide)]⟩⟩
        refine v110_47 ⟨fun _ => ?_, fun q => by omega⟩ (hx3 := by omega)
        have hS0 : hS t 0 = (1, 0, []) := ap_no (by intro q; have := q.1; have : (0 : Nat) = (asn t 0).1 + 3 := this; omega)
        have hHd : Hd (u 13) (80 * b) t := fun i hi => k5 i (by omega)
        have := s110h (g := g) (C := C) (S := S) (m := m) (A := A) (Q := Q) (v0 := u) hb hlen hHd (fun w w1 w2 w3 => h w w1 w2 (hfu.trans w3)) _ 0 u (l2 := l2) (l3 := li r) (l9 := l9) (l10 := l10) (l11 := l11) (l12 := l12) (l13 := l13) rfl (Nat.zero_le _) (Or.inr (Or.inr ⟨rfl, by rw [hS0]; rfl⟩)) (by
          rw [hS0]
          refine ⟨?_, ?_, hHd, fun i hi => absurd hi (Nat.not_lt_zero _), fun i hi => absurd hi (Nat.not_lt_zero _)⟩
          · rw [k3 14 (by decide), k14, if_pos rfl]; rfl
          · rw [k3 19 (by decide), k19, if_pos rfl]; rfl) FrB.rfl
        rw [hS0] at this
        exact this
      | succ n ih =>
        intro k u l2 l7 l8 l9 l10 l11 l12 l13 k1 k2 k3 k4 k5
        rcases hr5 with ⟨q1, q2⟩ | ⟨q1, q2, q3, q4⟩
        · rw [q2] at k1; have k1 : 0 - k = n + 1 := k1; omega
        · have h6 := q3 k (by omega)
          refine v110_47 ⟨fun q => by omega, fun _ => ⟨by omega, by omega, by omega, by omega, by omega, fun w ew => ⟨by omega, ih (k + 1) w (by omega) (by omega) (fun j hj => ?_) (fun x hx => ?_) (fun j hj => ?_)⟩⟩⟩
          · rw [ew, uv_j hj]; exact k3 j hj
          · rw [ew, uv_s, if_neg (by omega)]; exact k4 x hx
          · rw [ew, uv_s]
            by_cases s : j = k
            · rw [s, if_pos rfl, k3 6 (by decide)]; exact h6
            · rw [if_neg (by omega)]; exact k5 j (by omega)
    intro l2 l6 l7 l8 l9 l10 l11 l12 l13
    exact key _ 0 w4 rfl (Nat.zero_le _) (fun _ _ => rfl) (fun _ _ => rfl) (fun j hj => absurd hj (Nat.not_lt_zero _))
  refine v110_20 ⟨fun q => ?_, fun q => v110_36 ⟨by omega, ?_⟩ (hx3 := by omega)⟩ (hu0 := by omega)
  · rcases hr5 with ⟨q1, q2⟩ | ⟨q1, q2, q3, q4⟩
    · exact absurd q1 q
    · refine ⟨by omega, v110_36 ⟨by omega, ?_⟩⟩
      rw [q2]
      exact start (l6 := none)
  · rcases hr5 with ⟨q1, q2⟩ | ⟨q1, q2, q3, q4⟩
    · subst q2
      exact start (l6 := none)
    · omega
end RRead2
