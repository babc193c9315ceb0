theorem slc_cat {ws : List (List Int)} {a b e : Nat} (h1 : a ≤ b) (h2 : b ≤ e) (h3 : e ≤ ws.length) : slc ws a b ++ slc ws b e = slc ws a e := by
  unfold slc
  have h : (ws.take e).drop a = ((ws.take e).take b).drop a ++ (ws.take e).drop b := by
    rw [← List.drop_append_of_le_length (by rw [List.length_take, List.length_take]; omega), List.take_append_drop]
  rw [h, List.take_take, Nat.min_eq_left h2]
theorem pn_ok {t : List Int} {p : Nat} (h : p < np t) : (pn t p).1 ≤ (ppl t).1.length ∧ (pn t p).2.1 ≤ (ppl t).1.length ∧ (pn t p).2.2.1 ≤ (pn t p).2.2.2.1 ∧ (pn t p).2.2.2.1 ≤ (pn t p).2.2.2.2 ∧ (pn t p).2.2.2.2 ≤ (ppl t).1.length := by
  have hk := tgs_ok t
  have e : (tgA t (regs t)).1 = ppl t := tgA_fst t (regs t)
  unfold PTK at hk
  rw [e] at hk
  exact (hk.2.2 p h).1
theorem ppl_WOK (t : List Int) : WOK t (ppl t).1 := fun k hk => (ppl_len t).2 _ (mem_gD hk)
theorem nm_slc {t : List Int} {p : Nat} (h : p < np t) : jn (slc (wcs t (ppl t).1) (pn t p).2.2.1 (pn t p).2.2.2.2) = nm t p := by
  obtain ⟨-, -, h3, h4, h5⟩ := pn_ok h
  unfold nm pa fa
  rw [slc_cat h3 h4 (by rw [wcs_len]; exact h5)]
def odp (t : List Int) : Nat → List Int
  | 0 => []
  | p + 1 => odp t p ++ (jn (fa t p) ++ [1] ++ jn (gv t p) ++ [1] ++ jn (pa t p) ++ [1])
def ordT (t : List Int) : List Int := odp t (np t) ++ [0]
theorem odp_len (t : List Int) : ∀ n, (odp t n).length ≤ sumN (w3 t) n + 3 * n
  | 0 => Nat.le_refl _
  | p + 1 => by
    have h1 := odp_len t p
    have h2 := jn_le (fa t p)
    have h3 := jn_le (gv t p)
    have h4 := jn_le (pa t p)
    show (odp t p ++ (jn (fa t p) ++ [1] ++ jn (gv t p) ++ [1] ++ jn (pa t p) ++ [1])).length ≤ (sumN (w3 t) p + w3 t p) + 3 * (p + 1)
    simp only [List.length_append, List.length_singleton]
    unfold w3
    unfold w3 at h1
    omega
theorem inits_snoc (ws : List (List Int)) (w : List Int) : inits (ws ++ [w]) = if ws = [] then ini w else inits ws ++ 32 :: ini w := by
  unfold inits
  rw [List.map_append, List.map_cons, List.map_nil, jn_snoc]
  by_cases q : ws = []
  · rw [if_pos q, if_pos (by rw [q]; rfl)]
  · rw [if_neg q, if_neg (by simpa using q)]
section CPers2
variable {g : Nat → Nat} {B : Nat} {O : Nat → Prop} {c : CS} {Q : Rs → CS → Prop} {p r : Nat} {t : List Int}
theorem t19 (hK : yK c p = 5) (h : Q (Sum.inl (some (.int (iI (yI c p 6))))) c) : CW g B O 19 0 [some (.ref p)] [] c Q := c19_0 ⟨hK, h⟩
theorem t29 {i : Nat} (hP : PV c p t) (hi : i < np t) (hi2 : i ≤ 100) (h : ∀ a, PN c a (pn t i) → Q (Sum.inl (some (.ref a))) c) : CW g B O 29 0 [some (.ref p), some (.int (iI i))] [] c Q := by
  obtain ⟨⟨h1, -⟩, -, a, a1, a2, a3, a4⟩ := hP
  have hn := a4 i hi
  exact c29_0 ⟨fun q => by omega, fun _ => ⟨h1, a, a1, a2, fun q => by omega, fun _ => ⟨h1, a, a1, a2, by omega, _, by rw [Int.toNat_natCast], hn.1, c29_33 (h _ hn)⟩⟩⟩
theorem t17 {a : Nat} {x : P5} (hN : PN c a x) (h1 : x.1 < x.2.1 → Q (Sum.inl (some (.int (iI 1)))) c) (h2 : ¬ x.1 < x.2.1 → Q (Sum.inl (some (.int (iI 0)))) c) : CW g B O 17 0 [some (.ref a)] [] c Q := by
  obtain ⟨n1, n2, n3, -⟩ := hN
  exact c17_0 ⟨n1, n1, fun q => c17_16 ⟨Or.inl rfl, h2 (by omega)⟩, fun q => c17_16 ⟨Or.inr rfl, h1 (by omega)⟩⟩
theorem gv_ne {i : Nat} (hi : i < np t) : (pn t i).1 < (pn t i).2.1 ↔ ¬ gv t i = [] := by
  obtain ⟨-, h2, -⟩ := pn_ok hi
  constructor
  · exact fun q => slc_ne q (by rw [wcs_len]; exact h2)
  · intro q
    apply Decidable.of_not_not
    exact fun r => q (slc_nil (by omega))
theorem t30 {i : Nat} (hP : PV c p t) (hi : i < np t) (hi2 : i ≤ 100) (h1 : ¬ gv t i = [] → Q (Sum.inl (some (.int (iI 1)))) c) (h2 : gv t i = [] → Q (Sum.inl (some (.int (iI 0)))) c) : CW g B O 30 0 [some (.ref p), some (.int (iI i))] [] c Q :=
  c30_0 ⟨hP.1.1, t29 hP hi hi2 (fun _ hN => c30_5 ⟨hN.1, t17 hN (fun q => c30_8 ⟨Or.inr rfl, h1 ((gv_ne hi).mp q)⟩) (fun q => c30_8 ⟨Or.inl rfl, h2 (Decidable.of_not_not fun s => q ((gv_ne hi).mpr s))⟩)⟩)⟩
theorem t31 {i : Nat} (hP : PV c p t) (hi : i < np t) (ht : t.length ≤ 80) (ho : yK c r = 7) (hr : ¬ yP c p 0 = some r) (hl : (yT c r).length + 81 ≤ 1024) (h : Q (Sum.inl none) (wT c r (yT c r ++ nm t i))) : CW g B O 31 0 [some (.ref p), some (.int (iI i)), some (.ref r)] [] c Q := by
  have hn := np40 ht
  obtain ⟨k1, k2, k3, k4, k5⟩ := pn_ok hi
  have h40 := (ppl_len t).1.1
  have hw := (wcs_K t (pn t i).2.2.1 (pn t i).2.2.2.2).1
  refine c31_0 ⟨hP.1.1, t29 hP hi (by omega) (fun a hN => c31_6 ⟨hN.1, hP.1.1, t29 hP hi (by omega) (fun b hM => ?_)⟩)⟩
  obtain ⟨-, -, -, e2, -, -⟩ := hN
  obtain ⟨m1, -, -, -, -, e4⟩ := hM
  refine c31_14 ⟨m1, hP.1.1, ?_⟩ (hu1 := by omega)
  rw [e2, e4]
  exact t34 hP.1 (ppl_WOK t) ht ho hr (by omega) k5 (by omega) (by rw [nm_slc hi]; exact c31_21 h)
theorem t32 {i : Nat} (hP : PV c p t) (hi : i < np t) (ht : t.length ≤ 80) (ho : yK c r = 7) (hr : ¬ yP c p 0 = some r) (hl : (yT c r).length + 81 ≤ 1024) (h : Q (Sum.inl none) (wT c r (yT c r ++ jn (fa t i)))) : CW g B O 32 0 [some (.ref p), some (.int (iI i)), some (.ref r)] [] c Q := by
  have hn := np40 ht
  obtain ⟨k1, k2, k3, k4, k5⟩ := pn_ok hi
  have h40 := (ppl_len t).1.1
  have hw := (wcs_K t (pn t i).2.2.2.1 (pn t i).2.2.2.2).1
  refine c32_0 ⟨hP.1.1, t29 hP hi (by omega) (fun a hN => c32_6 ⟨hN.1, hP.1.1, t29 hP hi (by omega) (fun b hM => ?_)⟩)⟩
  obtain ⟨-, -, -, -, e3, -⟩ := hN
  obtain ⟨m1, -, -, -, -, e4⟩ := hM
  refine c32_14 ⟨m1, hP.1.1, ?_⟩ (hu1 := by omega)
  rw [e3, e4]
  exact t34 hP.1 (ppl_WOK t) ht ho hr (by omega) k5 (by omega) (c32_21 h)
theorem t33 {i : Nat} (hP : PV c p t) (hi : i < np t) (ht : t.length ≤ 80) (ho : yK c r = 7) (hr : ¬ yP c p 0 = some r) (hl : (yT c r).length + 130 ≤ 1024) (h : Q (Sum.inl none) (wT c r (yT c r ++ inits (gv t i)))) : CW g B O 33 0 [some (.ref p), some (.int (iI i)), some (.ref r), none, none] [] c Q := by
  have hn := np40 ht
  obtain ⟨k1, k2, -⟩ := pn_ok hi
  have h40 := (ppl_len t).1.1
  refine c33_0 ⟨hP.1.1, t29 hP hi (by omega) (fun a hN => c33_5 ⟨hN.1, ?_⟩)⟩
  obtain ⟨n1, e0, e1, -⟩ := hN
  rw [e0]
  have hra : ¬ r = a := kne ho n1 (by decide)
  unfold gv at h
  have hwl : (wcs t (ppl t).1).length = (ppl t).1.length := wcs_len
  generalize (pn t i).1 = f at *
  generalize (pn t i).2.1 = e at *
  have loop : ∀ (n k : Nat) {l1 : Option Value}, e - k = n → f ≤ k → (f = k ∨ k ≤ e) → CW g B O 33 12 [some (.ref p), l1, some (.ref r), some (.ref a), some (.int (iI k))] [] (wT c r (yT c r ++ inits (slc (wcs t (ppl t).1) f k))) Q := by
    intro n
    induction n with
    | zero =>
      intro k l1 q1 q2 q3
      have e1' : yI (wT c r (yT c r ++ inits (slc (wcs t (ppl t).1) f k))) a 1 = (e : Int) := e1
      refine c33_12 ⟨n1, fun _ => ?_, fun q => by omega⟩ (hx4 := by omega)
      have : slc (wcs t (ppl t).1) f k = slc (wcs t (ppl t).1) f e := by
        rcases q3 with q | q
        · rw [slc_nil (by omega), slc_nil (by omega)]
        · rw [show k = e by omega]
      rw [this]
      exact h
    | succ n ih =>
      intro k l1 q1 q2 q3
      have hkW : k < (ppl t).1.length := by omega
      have hsn := slc_snoc (ws := wcs t (ppl t).1) (f := f) (k := k) q2 (by omega)
      rw [wcs_get hkW] at hsn
      obtain ⟨w1, w2⟩ := ppl_WOK t k hkW
      have hw0 : (sl t ((ppl t).1.getD k (0, 0)).1 ((ppl t).1.getD k (0, 0)).2).getD 0 0 = t.getD ((ppl t).1.getD k (0, 0)).1 0 := by rw [sl_get (by omega)]; rfl
      have hil := inits_len (ws := slc (wcs t (ppl t).1) f k)
      have hsl : (slc (wcs t (ppl t).1) f k).length ≤ k := by unfold slc; rw [List.length_drop, List.length_take]; omega
      have e1' : ∀ Z : List Int, yI (wT c r Z) a 1 = (e : Int) := fun Z => e1
      have e0' : ∀ Z : List Int, yI (wT c r Z) a 0 = (f : Int) := fun Z => e0
      have put : ∀ (Z : List Int) {l1 : Option Value}, Z.length + 2 ≤ 1024 → Z ++ ini (sl t ((ppl t).1.getD k (0, 0)).1 ((ppl t).1.getD k (0, 0)).2) = yT c r ++ inits (slc (wcs t (ppl t).1) f (k + 1)) → CW g B O 33 36 [some (.ref p), l1, some (.ref r), some (.ref a), some (.int (iI k))] [] (wT c r Z) Q := fun Z l1 hZ hZ2 => by
        refine cq_R fun hR => ?_
        have hP7 := hP.1.out (l := Z) hr
        have hP8 := hP7
        obtain ⟨p1, ⟨s, s1, s2, s3⟩, -⟩ := hP7
        have hsg := (hR.2.1 s s2).2 (((ppl t).1.getD k (0, 0)).1 : Nat)
        have esg : sg (yT (wT c r Z) s) (((ppl t).1.getD k (0, 0)).1 : Nat) = t.getD ((ppl t).1.getD k (0, 0)).1 0 := by rw [s3, sg_nat]
        refine c33_36 ⟨p1, s, s1, p1, t28 hP8 hkW (c33_47 ⟨s2, ho, hsg, by rw [yT_wT]; omega, fun d ed => ?_⟩ (hu0 := by omega))⟩
        rw [esg, yT_wT, wT_wT] at ed
        rw [ed]
        refine ⟨ho, by decide, by rw [yT_wT, List.length_append]; show _ + 1 < _; omega, fun d2 ed2 => ⟨by omega, ?_⟩⟩
        rw [yT_wT, wT_wT] at ed2
        rw [ed2]
        have : Z ++ [t.getD ((ppl t).1.getD k (0, 0)).1 0] ++ [46] = yT c r ++ inits (slc (wcs t (ppl t).1) f (k + 1)) := by
          rw [← hZ2]
          unfold ini
          rw [hw0, List.append_assoc]
          rfl
        rw [this]
        exact ih (k + 1) (by omega) (by omega) (by omega)
      refine c33_12 ⟨n1, fun q => by rw [e1'] at q; omega, fun _ => ⟨n1, fun q => put _ ?_ ?_, fun q => ⟨ho, by decide, ?_, fun d ed => ?_⟩⟩⟩
      · rw [List.length_append]; omega
      · rw [e0'] at q
        rw [hsn, inits_snoc, slc_nil (by omega), if_pos rfl]
        show yT c r ++ [] ++ _ = _
        rw [List.append_nil]
      · rw [yT_wT, List.length_append]; omega
      · rw [e0'] at q
        rw [yT_wT, wT_wT] at ed
        rw [ed]
        refine put _ ?_ ?_
        · rw [List.length_append, List.length_append]; show _ + _ + 1 + 2 ≤ _; omega
        · rw [hsn, inits_snoc, if_neg (slc_ne (by omega) (by omega))]
          simp
  have := loop _ f (l1 := some (.int (iI i))) rfl (Nat.le_refl _) (Or.inl rfl)
  rw [slc_nil (Nat.le_refl _)] at this
  have e0 : wT c r (yT c r ++ inits []) = c := by
    show wT c r (yT c r ++ []) = c
    rw [List.append_nil, wT_self]
  rw [e0] at this
  exact this
theorem t35 (hP : PV c p t) (ht : t.length ≤ 80) (ho : yK c r = 7) (hr : ¬ yP c p 0 = some r) (hl : (yT c r).length ≤ 300) (h : Q (Sum.inl none) (wT c r (yT c r ++ ordT t))) : CW g B O 35 0 [some (.ref p), some (.ref r), none, none] [] c Q := by
  have hn := np40 ht
  have h40 := (ppl_len t).1.1
  refine c35_0 ?_
  have loop : ∀ (n i : Nat) {l3 : Option Value}, np t - i = n → i ≤ np t → CW g B O 35 2 [some (.ref p), some (.ref r), some (.int (iI i)), l3] [] (wT c r (yT c r ++ odp t i)) Q := by
    intro n
    induction n with
    | zero =>
      intro i l3 i1 i2
      have hP7 := hP.out (l := yT c r ++ odp t i) hr
      have hol := odp_len t i
      have hws := w3_sum t i
      have p6 := hP7.2.1
      refine c35_2 ⟨hP7.1.1, fun _ => ⟨ho, by decide, by rw [yT_wT, List.length_append]; omega, fun d ed => ?_⟩, fun q => by omega⟩ (hx2 := by omega)
      rw [yT_wT, wT_wT, show i = np t by omega, List.append_assoc] at ed
      rw [ed]
      exact h
    | succ n ih =>
      intro i l3 i1 i2
      have hP7 := hP.out (l := yT c r ++ odp t i) hr
      have hol := odp_len t i
      have hws := w3_sum t i
      have p6 := hP7.2.1
      obtain ⟨k1, k2, k3, k4, k5⟩ := pn_ok (t := t) (p := i) (by omega)
      have hwf := (fa_K t i).1
      have hwg := (gv_K t i).1
      have hwp := (pa_K t i).1
      have jf := jn_le (fa t i)
      have jg := jn_le (gv t i)
      have jp := jn_le (pa t i)
      refine c35_2 ⟨hP7.1.1, fun q => by omega, fun _ => ⟨hP7.1.1, t29 hP7 (by omega) (by omega) (fun a hN => ?_)⟩⟩
      obtain ⟨n1, e0, e1, e2, e3, e4⟩ := hN
      refine c35_15 ⟨n1, n1, hP7.1.1, ?_⟩
      rw [e3, e4]
      refine t34 hP7.1 (ppl_WOK t) ht ho hr (by omega) k5 (by rw [yT_wT, List.length_append]; unfold fa at hwf; omega) ?_
      rw [yT_wT, wT_wT]
      refine c35_29 ⟨ho, by decide, ?_, fun d ed => ?_⟩
      · rw [yT_wT, List.length_append, List.length_append]; unfold fa at jf hwf; omega
      rw [yT_wT, wT_wT] at ed
      subst ed
      have e0' : ∀ Z : List Int, yI (wT c r Z) a 0 = ((pn t i).1 : Int) := fun Z => e0
      have e1' : ∀ Z : List Int, yI (wT c r Z) a 1 = ((pn t i).2.1 : Int) := fun Z => e1
      have e2' : ∀ Z : List Int, yI (wT c r Z) a 2 = ((pn t i).2.2.1 : Int) := fun Z => e2
      have e3' : ∀ Z : List Int, yI (wT c r Z) a 3 = ((pn t i).2.2.2.1 : Int) := fun Z => e3
      rw [e0', e1']
      refine ⟨n1, n1, hP.1.1, t34 (hP.1.out hr) (ppl_WOK t) ht ho hr (by omega) k2 ?_ ?_⟩
      · rw [yT_wT]
        simp only [List.length_append, List.length_singleton]
        unfold fa at jf hwf
        unfold gv at hwg
        omega
      rw [yT_wT, wT_wT]
      refine c35_47 ⟨ho, by decide, ?_, fun d ed => ?_⟩
      · rw [yT_wT]
        simp only [List.length_append, List.length_singleton]
        unfold fa at jf hwf
        unfold gv at jg hwg
        omega
      rw [yT_wT, wT_wT] at ed
      subst ed
      rw [e2', e3']
      refine ⟨n1, n1, hP.1.1, t34 (hP.1.out hr) (ppl_WOK t) ht ho hr (by omega) (by omega) ?_ ?_⟩
      · rw [yT_wT]
        simp only [List.length_append, List.length_singleton]
        unfold fa at jf hwf
        unfold gv at jg hwg
        unfold pa at hwp
        omega
      rw [yT_wT, wT_wT]
      refine c35_65 ⟨ho, by decide, ?_, fun d ed => ⟨by omega, ?_⟩⟩
      · rw [yT_wT]
        simp only [List.length_append, List.length_singleton]
        unfold fa at jf hwf
        unfold gv at jg hwg
        unfold pa at jp hwp
        omega
      rw [yT_wT, wT_wT] at ed
      have e : yT c r ++ odp t i ++ jn (slc (wcs t (ppl t).1) (pn t i).2.2.2.1 (pn t i).2.2.2.2) ++ [1] ++ jn (slc (wcs t (ppl t).1) (pn t i).1 (pn t i).2.1) ++ [1] ++ jn (slc (wcs t (ppl t).1) (pn t i).2.2.1 (pn t i).2.2.2.1) ++ [1] = yT c r ++ odp t (i + 1) := by
        show _ = yT c r ++ (odp t i ++ (jn (fa t i) ++ [1] ++ jn (gv t i) ++ [1] ++ jn (pa t i) ++ [1]))
        unfold fa gv pa
        simp
      rw [e] at ed
      rw [ed]
      exact ih (i + 1) (by omega) (by omega)
  have := loop _ 0 (l3 := none) rfl (Nat.zero_le _)
  have e0 : wT c r (yT c r ++ odp t 0) = c := by
    show wT c r (yT c r ++ []) = c
    rw [List.append_nil, wT_self]
  rw [e0] at this
  exact this
theorem t36 (hP : PV c p t) (ht : t.length ≤ 80) (ho : yK c r = 7) (hr : ¬ yP c p 0 = some r) (hn0 : 0 < np t) (hl : (yT c r).length ≤ 400) (h : Q (Sum.inl none) (wT c r (yT c r ++ psn t))) : CW g B O 36 0 [some (.ref p), some (.ref r), none, none] [] c Q := by
  have hn := np40 ht
  have htx := tx_l
  have p6 := hP.2.1
  -- one person with initials
  have one : ∀ (x2 : Int) (i : Nat) (Z : List Int), i < np t → (0 ≤ x2 ∧ x2 ≤ 100) → Z.length ≤ 600 → CW g B O 36 19 [some (.ref p), some (.ref r), some (.int (iI x2)), some (.int (iI ((i + 1 : Nat) : Int)))] [] (wT c r (Z ++ ful t i)) Q → CW g B O 36 46 [some (.ref p), some (.ref r), some (.int (iI x2)), some (.int (iI i))] [] (wT c r Z) Q := fun x2 i Z hi hx hZ hc => by
    have hnl := nm_len t i
    have b1 := (pa_K t i).1
    have b2 := (fa_K t i).1
    unfold ful at hc
    have hP7 := hP.out (l := Z) hr
    refine c36_46 ⟨hP7.1.1, t31 hP7 hi ht ho hr (by rw [yT_wT]; omega) ?_⟩
    rw [yT_wT, wT_wT]
    have hP8 := hP.out (l := Z ++ nm t i) hr
    refine c36_52 ⟨hP8.1.1, t30 hP8 hi (by omega) (fun q => c36_57 ⟨fun s => by omega, fun _ => ⟨ho, by decide, ?_, fun d ed => ?_⟩⟩) (fun q => c36_57 ⟨fun _ => c36_72 ⟨by omega, ?_⟩, fun s => absurd rfl s⟩)⟩
    · rw [yT_wT, List.length_append]; omega
    · rw [yT_wT, wT_wT] at ed
      subst ed
      rw [if_neg q] at hc
      refine ⟨hP8.1.1, t33 (hP.out hr) hi ht ho hr (by rw [yT_wT, List.length_append, List.length_append]; omega) ?_⟩
      rw [yT_wT, wT_wT]
      refine c36_72 ⟨by omega, ?_⟩
      simpa using hc
    · rw [if_pos q, List.append_nil] at hc
      exact hc
  unfold psn at h
  by_cases hn3 : 3 < np t
  · rw [if_pos hn3] at h
    refine c36_0 ⟨hP.1.1, fun q => by omega, fun _ => c36_16 (c36_19 ⟨fun q => by omega, fun _ => ⟨fun _ => ?_, fun q => by omega⟩⟩)⟩
    have e0 : wT c r (yT c r) = c := wT_self c r
    have := one 1 0 (yT c r) hn0 (by omega) (by omega) ?_
    · rw [e0] at this; exact this
    · have hP7 := hP.out (l := yT c r ++ ful t 0) hr
      have p6 := hP7.2.1
      have hfl := ful_len t 0
      have hw3 := w3_sum t 1
      have hw3 : 0 + w3 t 0 ≤ t.length + 1 := hw3
      refine c36_19 ⟨fun _ => ⟨hP7.1.1, fun q => by omega, fun _ => ⟨ho, by decide, ?_, fun d ed => c36_92 ?_⟩⟩, fun q => by omega⟩
      · rw [yT_wT, List.length_append]; omega
      · rw [yT_wT, wT_wT, List.append_assoc] at ed
        rw [ed]
        exact h
  · rw [if_neg hn3] at h
    have loop : ∀ (n i : Nat), np t - i = n → i ≤ np t → CW g B O 36 19 [some (.ref p), some (.ref r), some (.int (iI (np t))), some (.int (iI i))] [] (wT c r (yT c r ++ pn3 t i)) Q := by
      intro n
      induction n with
      | zero =>
        intro i i1 i2
        have hP7 := hP.out (l := yT c r ++ pn3 t i) hr
        have p6 := hP7.2.1
        have ei : i = np t := by omega
        subst ei
        exact c36_19 ⟨fun _ => ⟨hP7.1.1, fun _ => c36_92 h, fun q => by omega⟩, fun q => by omega⟩
      | succ n ih =>
        intro i i1 i2
        have hpl := pn3_len t i
        have hws := w3_sum t i
        have put : ∀ s : List Int, s.length ≤ 5 → pn3 t (i + 1) = pn3 t i ++ s ++ ful t i → CW g B O 36 46 [some (.ref p), some (.ref r), some (.int (iI (np t))), some (.int (iI i))] [] (wT c r (yT c r ++ pn3 t i ++ s)) Q := fun s hs hp3 => by
          refine one (np t) i _ (by omega) (by omega) (by rw [List.length_append, List.length_append]; omega) ?_
          have := ih (i + 1) (by omega) (by omega)
          rw [hp3] at this
          simpa using this
        refine c36_19 ⟨fun q => by omega, fun _ => ⟨fun q => ?_, fun q => ⟨by omega, fun q1 => c36_43 ⟨ho, by decide, ?_, fun d ed => ?_⟩, fun q1 => c36_43 ⟨ho, by decide, ?_, fun d ed => ?_⟩⟩⟩⟩
        · have := put [] (Nat.zero_le _) ?_
          · rw [List.append_nil] at this; exact this
          · show pn3 t i ++ (if i = 0 then [] else if i + 1 = np t then tx 1 else tx 5) ++ ful t i = _
            rw [if_pos (by omega)]
        · rw [yT_wT, List.length_append]; omega
        · rw [yT_wT, wT_wT] at ed
          rw [ed]
          refine put (tx 5) (by omega) ?_
          show pn3 t i ++ (if i = 0 then [] else if i + 1 = np t then tx 1 else tx 5) ++ ful t i = _
          rw [if_neg (by omega), if_neg (by omega)]
        · rw [yT_wT, List.length_append]; omega
        · rw [yT_wT, wT_wT] at ed
          rw [ed]
          refine put (tx 1) (by omega) ?_
          show pn3 t i ++ (if i = 0 then [] else if i + 1 = np t then tx 1 else tx 5) ++ ful t i = _
          rw [if_neg (by omega), if_pos (by omega)]
    refine c36_0 ⟨hP.1.1, fun _ => ⟨hP.1.1, c36_16 ?_⟩, fun q => by omega⟩
    rw [p6]
    have := loop _ 0 rfl (Nat.zero_le _)
    have e0 : wT c r (yT c r ++ pn3 t 0) = c := by
      show wT c r (yT c r ++ []) = c
      rw [List.append_nil, wT_self]
    rw [e0] at this
    exact this
theorem t37 (hP : PV c p t) (ht : t.length ≤ 80) (ho : yK c r = 7) (hr : ¬ yP c p 0 = some r) (hl : (yT c r).length ≤ 600) (h : Q (Sum.inl none) (wT c r (yT c r ++ fsg t (min (np t) 4) ++ if 4 < np t then [43] else []))) : CW g B O 37 0 [some (.ref p), some (.ref r), none, none] [] c Q := by
  have hn := np40 ht
  have h40 := (ppl_len t).1.1
  refine c37_0 ?_
  have loop : ∀ (n i : Nat) {l3 : Option Value}, min (np t) 4 - i = n → i ≤ min (np t) 4 → CW g B O 37 2 [some (.ref p), some (.ref r), some (.int (iI i)), l3] [] (wT c r (yT c r ++ fsg t i)) Q := by
    intro n
    induction n with
    | zero =>
      intro i l3 i1 i2
      have hP7 := hP.out (l := yT c r ++ fsg t i) hr
      have p6 := hP7.2.1
      have hfl := fsg_len t i
      have ei : i = min (np t) 4 := by omega
      have fin : ∀ {l2 l3 : Option Value}, CW g B O 37 57 [some (.ref p), some (.ref r), l2, l3] [] (wT c r (yT c r ++ fsg t i)) Q := fun {l2 l3} => by
        refine c37_57 ⟨hP7.1.1, fun q => c37_71 ?_, fun q => ⟨ho, by decide, by rw [yT_wT, List.length_append]; omega, fun d ed => c37_71 ?_⟩⟩
        · rw [if_neg (by omega), List.append_nil] at h
          rw [ei]; exact h
        · rw [yT_wT, wT_wT] at ed
          rw [if_pos (by omega)] at h
          rw [ed, ei]; exact h
      exact c37_2 ⟨hP7.1.1, fun _ => fin, fun _ => ⟨fun _ => fin, fun q => by omega⟩⟩
    | succ n ih =>
      intro i l3 i1 i2
      have hP7 := hP.out (l := yT c r ++ fsg t i) hr
      have p6 := hP7.2.1
      have hfl := fsg_len t i
      obtain ⟨k1, k2, k3, k4, k5⟩ := pn_ok (t := t) (p := i) (by omega)
      have hfs : fsg t (i + 1) = fsg t i ++ (jn (fa t i)).take 1 := rfl
      refine c37_2 ⟨hP7.1.1, fun q => by omega, fun _ => ⟨fun q => by omega, fun _ => ⟨hP7.1.1, t29 hP7 (by omega) (by omega) (fun a hN => ?_)⟩⟩⟩
      obtain ⟨n1, e0, e1, e2, e3, e4⟩ := hN
      refine cq_R fun hR => c37_20 ⟨n1, n1, fun q => c37_51 ⟨by omega, ?_⟩, fun q => ?_⟩
      · have hz : fa t i = [] := slc_nil (by omega)
        rw [hz] at hfs
        have hfs : fsg t (i + 1) = fsg t i ++ [] := hfs
        rw [List.append_nil] at hfs
        have := ih (i + 1) (l3 := some (.ref a)) (by omega) (by omega)
        rw [hfs] at this
        exact this
      · have hP8 := hP7
        obtain ⟨⟨p1, ⟨s, s1, s2, s3⟩, p2⟩, p3⟩ := hP7
        rw [e3] at q ⊢
        have hkW : (pn t i).2.2.2.1 < (ppl t).1.length := by omega
        obtain ⟨w1, w2⟩ := ppl_WOK t _ hkW
        have hsg := (hR.2.1 s s2).2 (((ppl t).1.getD (pn t i).2.2.2.1 (0, 0)).1 : Nat)
        have esg : sg (yT (wT c r (yT c r ++ fsg t i)) s) (((ppl t).1.getD (pn t i).2.2.2.1 (0, 0)).1 : Nat) = t.getD ((ppl t).1.getD (pn t i).2.2.2.1 (0, 0)).1 0 := by rw [s3, sg_nat]
        refine ⟨p1, s, s1, n1, p1, ?_⟩
        refine t28 hP8.1 hkW (c37_45 ⟨s2, ho, hsg, by rw [yT_wT, List.length_append]; omega, fun d ed => c37_51 ⟨by omega, ?_⟩⟩ (hu0 := by omega))
        rw [esg, yT_wT, wT_wT] at ed
        rw [ed]
        have hz : (jn (fa t i)).take 1 = [t.getD ((ppl t).1.getD (pn t i).2.2.2.1 (0, 0)).1 0] := by
          have hwl : (wcs t (ppl t).1).length = (ppl t).1.length := wcs_len
          have h1 : fa t i = (wcs t (ppl t).1).getD (pn t i).2.2.2.1 [] :: slc (wcs t (ppl t).1) ((pn t i).2.2.2.1 + 1) (pn t i).2.2.2.2 := by
            unfold fa slc
            rw [List.drop_eq_getElem_cons (by rw [List.length_take]; omega), List.getElem_take, List.getD_eq_getElem?_getD, List.getElem?_eq_getElem (by omega)]
            rfl
          rw [h1, wcs_get hkW, sl_cons w1 w2]
          rfl
        have := ih (i + 1) (l3 := some (.ref a)) (by omega) (by omega)
        rw [hfs, hz, ← List.append_assoc] at this
        exact this
  have := loop _ 0 (l3 := none) rfl (Nat.zero_le _)
  have e0 : wT c r (yT c r ++ fsg t 0) = c := by
    show wT c r (yT c r ++ []) = c
    rw [List.append_nil, wT_self]
  rw [e0] at this
  exact this
end CPers2
