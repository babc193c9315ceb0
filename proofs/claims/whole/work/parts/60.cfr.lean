/-! THE CLASS'S OBJECTS: what stays -/
section Ys
variable {c : CS} {a b κ cost n0 : Nat} {i j x n : Int} {q : Option Nat} {l : List Int} {k : List Nat}
theorem yI_wI : yI (wI c a j x) b i = if b = a ∧ i = j then x else yI c b i := rfl
theorem yP_wP : yP (wP c a j q) b i = if b = a ∧ i = j then q else yP c b i := rfl
theorem yK_wI : yK (wI c a j x) = yK c := rfl
theorem yK_wP : yK (wP c a j q) = yK c := rfl
theorem yK_wE : yK (wE c a k) = yK c := rfl
theorem yK_wU : yK (wU c n0) = yK c := rfl
theorem yK_wN : yK (wN c a κ n cost) b = if b = a then κ else yK c b := rfl
theorem yI_wN : yI (wN c a κ n cost) b i = if b = a then (if i = -1 then n else 0) else yI c b i := rfl
theorem yT_wN : yT (wN c a κ n cost) b = if b = a then [] else yT c b := rfl
theorem yE_wN : yE (wN c a κ n cost) b = if b = a then [] else yE c b := rfl
end Ys
def Kp (c d : CS) (a : Nat) : Prop := yK d a = yK c a ∧ yI d a = yI c a ∧ yP d a = yP c a ∧ yT d a = yT c a ∧ yE d a = yE c a
theorem Kp.rfl {c : CS} {a : Nat} : Kp c c a := ⟨by rfl, by rfl, by rfl, by rfl, by rfl⟩
theorem Kp.trans {c d e : CS} {a : Nat} (h : Kp c d a) (h' : Kp d e a) : Kp c e a := ⟨h'.1.trans h.1, h'.2.1.trans h.2.1, h'.2.2.1.trans h.2.2.1, h'.2.2.2.1.trans h.2.2.2.1, h'.2.2.2.2.trans h.2.2.2.2⟩
section Kps
variable {c : CS} {a b κ cost n0 : Nat} {j x n : Int} {q : Option Nat} {l : List Int} {k : List Nat}
theorem Kp_wI (h : ¬ b = a) : Kp c (wI c a j x) b := ⟨rfl, funext fun i => if_neg (fun r => h r.1), rfl, rfl, rfl⟩
theorem Kp_wP (h : ¬ b = a) : Kp c (wP c a j q) b := ⟨rfl, rfl, funext fun i => if_neg (fun r => h r.1), rfl, rfl⟩
theorem Kp_wT (h : ¬ b = a) : Kp c (wT c a l) b := ⟨rfl, rfl, rfl, if_neg h, rfl⟩
theorem Kp_wE (h : ¬ b = a) : Kp c (wE c a k) b := ⟨rfl, rfl, rfl, rfl, if_neg h⟩
theorem Kp_wU : Kp c (wU c n0) b := ⟨rfl, rfl, rfl, rfl, rfl⟩
theorem Kp_wN (h : ¬ b = a) : Kp c (wN c a κ n cost) b := ⟨if_neg h, funext fun i => if_neg h, funext fun i => if_neg h, if_neg h, if_neg h⟩
end Kps
/-- an address of another kind is another -/
theorem kne {c : CS} {a b m n : Nat} (ha : yK c a = m) (hb : yK c b = n) (h : ¬ m = n) : ¬ a = b := fun q => h (by rw [← ha, ← hb, q])
/-- labels: owner and place -/
abbrev LB : Type := Nat → Nat × Nat
theorem lne {ℓ : LB} {a b : Nat} {x y : Nat × Nat} (ha : ℓ a = x) (hb : ℓ b = y) (h : ¬ x = y) : ¬ a = b := fun q => h (by rw [← ha, ← hb, q])
def upL (ℓ : LB) (a : Nat) (x : Nat × Nat) : LB := fun b => if b = a then x else ℓ b
theorem upL_eq {ℓ : LB} {a : Nat} {x : Nat × Nat} : upL ℓ a x a = x := if_pos rfl
theorem upL_ne {ℓ : LB} {a b : Nat} {x : Nat × Nat} (h : ¬ b = a) : upL ℓ a x b = ℓ b := if_neg h
/-- what is in use keeps kind and label; what is not in S keeps all -/
def FS (S : Nat → Prop) (ℓ ℓ' : LB) (c d : CS) : Prop := (∀ a, ¬ yK c a = 0 → yK d a = yK c a ∧ ℓ' a = ℓ a) ∧ ∀ a, ¬ yK c a = 0 → ¬ S a → Kp c d a
theorem FS.rfl {S : Nat → Prop} {ℓ : LB} {c : CS} : FS S ℓ ℓ c c := ⟨fun _ _ => ⟨by rfl, by rfl⟩, fun _ _ _ => Kp.rfl⟩
theorem FS.trans {S : Nat → Prop} {ℓ ℓ' ℓ'' : LB} {c d e : CS} (h : FS S ℓ ℓ' c d) (h' : FS S ℓ' ℓ'' d e) : FS S ℓ ℓ'' c e := by
  refine ⟨fun a ha => ?_, fun a ha hS => ?_⟩
  · obtain ⟨q1, q2⟩ := h.1 a ha
    obtain ⟨r1, r2⟩ := h'.1 a (by rw [q1]; exact ha)
    exact ⟨r1.trans q1, r2.trans q2⟩
  · obtain ⟨q1, q2⟩ := h.1 a ha
    exact (h.2 a ha hS).trans (h'.2 a (by rw [q1]; exact ha) hS)
theorem FS.mono {S S' : Nat → Prop} {ℓ ℓ' : LB} {c d : CS} (h : FS S ℓ ℓ' c d) (hS : ∀ a, ¬ yK c a = 0 → S a → S' a) : FS S' ℓ ℓ' c d := ⟨h.1, fun a ha hn => h.2 a ha (fun q => hn (hS a ha q))⟩
/-! words of a Persons object -/
def PW (c : CS) (p : Nat) (t : List Int) (W : List Wd) : Prop := yK c p = 5 ∧ (∃ s, yP c p 0 = some s ∧ yK c s = 7 ∧ yT c s = t) ∧
  (∃ a, yP c p 1 = some a ∧ yK c a = 101 ∧ yI c a (-1) = 40 ∧ ∀ i : Nat, i < W.length → yI c a i = ((W.getD i (0, 0)).1 : Nat)) ∧
  (∃ a, yP c p 2 = some a ∧ yK c a = 101 ∧ yI c a (-1) = 40 ∧ ∀ i : Nat, i < W.length → yI c a i = ((W.getD i (0, 0)).2 : Nat)) ∧ yI c p 3 = W.length ∧ W.length ≤ 40
theorem PW.out {c : CS} {p r : Nat} {t l : List Int} {W : List Wd} (h : PW c p t W) (hr : ¬ yP c p 0 = some r) : PW (wT c r l) p t W := by
  obtain ⟨h1, ⟨s, s1, s2, s3⟩, h3, h4, h5⟩ := h
  exact ⟨h1, ⟨s, s1, s2, by rw [yT_wT_ne (fun q => hr (by rw [← q]; exact s1))]; exact s3⟩, h3, h4, h5⟩
/-- the numbers of a person -/
def PN (c : CS) (a : Nat) (x : P5) : Prop := yK c a = 4 ∧ yI c a 0 = x.1 ∧ yI c a 1 = x.2.1 ∧ yI c a 2 = x.2.2.1 ∧ yI c a 3 = x.2.2.2.1 ∧ yI c a 4 = x.2.2.2.2
/-- it has read t -/
def PV (c : CS) (p : Nat) (t : List Int) : Prop := PW c p t (ppl t).1 ∧ yI c p 6 = np t ∧ ∃ a, yP c p 4 = some a ∧ yK c a = 1 ∧ np t ≤ (yE c a).length ∧ ∀ i : Nat, i < np t → PN c ((yE c a).getD i 0) (pn t i)
theorem PV.out {c : CS} {p r : Nat} {t l : List Int} (h : PV c p t) (hr : ¬ yP c p 0 = some r) : PV (wT c r l) p t := ⟨h.1.out hr, h.2⟩
/-! slices -/
theorem slc_snoc {ws : List (List Int)} {f k : Nat} (hf : f ≤ k) (hk : k < ws.length) : slc ws f (k + 1) = slc ws f k ++ [ws.getD k []] := by
  unfold slc
  rw [take_snoc (d := []) hk, List.drop_append_of_le_length (by rw [List.length_take]; omega)]
theorem slc_nil {ws : List (List Int)} {f k : Nat} (h : k ≤ f) : slc ws f k = [] := by
  unfold slc
  exact List.drop_eq_nil_of_le (by rw [List.length_take]; omega)
theorem slc_ne {ws : List (List Int)} {f k : Nat} (h : f < k) (hk : k ≤ ws.length) : ¬ slc ws f k = [] := fun q => by
  have : (slc ws f k).length = 0 := by rw [q]; rfl
  unfold slc at this
  rw [List.length_drop, List.length_take] at this
  omega
theorem slc_mono (ws : List (List Int)) (f k e : Nat) (h : k ≤ e) : wl (slc ws f k) ≤ wl (slc ws f e) := by
  unfold slc
  have h1 : ws.take k = (ws.take e).take k := by rw [List.take_take, Nat.min_eq_left h]
  have h2 : (ws.take e).drop f = ((ws.take e).take k).drop f ++ ((ws.take e).drop (max k f)) := by
    by_cases q : f ≤ k
    · rw [show max k f = k by omega]
      by_cases q2 : k ≤ (ws.take e).length
      · rw [← List.drop_append_of_le_length (by rw [List.length_take]; omega), List.take_append_drop]
      · have q3 : (ws.take e).take k = ws.take e := List.take_of_length_le (by omega)
        rw [q3, List.drop_eq_nil_of_le (as := ws.take e) (i := k) (by omega), List.append_nil]
    · rw [show max k f = f by omega, List.drop_eq_nil_of_le (as := (ws.take e).take k) (by rw [List.length_take]; omega), List.nil_append]
  rw [h1, h2, wl_app]
  omega
theorem sl_snoc {t : List Int} {a i : Nat} (h : a ≤ i) (hi : i < t.length) : sl t a (i + 1) = sl t a i ++ [t.getD i 0] := by
  unfold sl
  rw [take_snoc (d := 0) hi, List.drop_append_of_le_length (by rw [List.length_take]; omega)]
theorem sl_cons {t : List Int} {i e : Nat} (h : i < e) (he : e ≤ t.length) : sl t i e = t.getD i 0 :: sl t (i + 1) e := by
  unfold sl
  rw [drop_cons (l := t.take e) (i := i) (by rw [List.length_take]; omega)]
  congr 1
  rw [List.getD_eq_getElem?_getD, List.getD_eq_getElem?_getD, List.getElem?_take_of_lt h]
theorem sl_self {t : List Int} {a : Nat} : sl t a a = [] := by
  unfold sl
  exact List.drop_eq_nil_of_le (by rw [List.length_take]; omega)
theorem wcs_get {t : List Int} {W : List Wd} {k : Nat} (h : k < W.length) : (wcs t W).getD k [] = sl t (W.getD k (0, 0)).1 (W.getD k (0, 0)).2 := by
  unfold wcs
  rw [List.getD_eq_getElem?_getD, List.getD_eq_getElem?_getD, List.getElem?_map, List.getElem?_eq_getElem h]
  rfl
section CPers
variable {g : Nat → Nat} {B : Nat} {O : Nat → Prop} {c : CS} {Q : Rs → CS → Prop} {p r : Nat} {t : List Int} {W : List Wd}
theorem t28 {k : Nat} (hP : PW c p t W) (hk : k < W.length) (h : Q (Sum.inl (some (.int (iI ((W.getD k (0, 0)).1 : Nat))))) c) : CW g B O 28 0 [some (.ref p), some (.int (iI k))] [] c Q := by
  obtain ⟨h1, -, ⟨a, a1, a2, a3, a4⟩, -, h5, h6⟩ := hP
  refine cq_R fun hR => c28_0 ⟨fun q => by omega, fun _ => ⟨h1, fun q => by omega, fun _ => ⟨h1, a, a1, a2, by omega, ?_⟩⟩⟩
  have hr := hR.1 a k
  rw [a4 k hk] at hr ⊢
  exact c28_22 h (hu0 := by omega)
theorem t89 {x : Int} (hx : -2147483648 ≤ x ∧ x ≤ 2147483647) (h1 : smB x = true → Q (Sum.inl (some (.int (iI 1)))) c) (h2 : ¬ smB x = true → Q (Sum.inl (some (.int (iI 0)))) c) : CW g B O 89 0 [some (.int (iI x))] [] c Q := by
  unfold smB at h1 h2
  rw [decide_eq_true_eq] at h1 h2
  have y : (97 ≤ x ∧ x ≤ 122) ∨ 222 < x → ∀ {l0 : Option Value}, CW g B O 89 19 [l0] [] c Q := fun e l0 => c89_19 (c89_24 ⟨Or.inr rfl, h1 e⟩)
  have n : (x < 97 ∨ 122 < x) → CW g B O 89 12 [some (.int (iI x))] [] c Q := fun e => c89_12 ⟨fun q => c89_24 ⟨Or.inl rfl, h2 (by omega)⟩, fun q => y (Or.inr q)⟩
  exact c89_0 ⟨fun q => n (by omega), fun q => ⟨fun r => y (by omega), fun r => n (by omega)⟩⟩
theorem sg_nat {l : List Int} {i : Nat} : sg l i = l.getD i 0 := by
  unfold sg
  rw [if_pos (by omega), Int.toNat_natCast]
theorem t27 {k : Nat} (hP : PW c p t W) (hk : k < W.length) (h1 : smW t W k = true → Q (Sum.inl (some (.int (iI 1)))) c) (h2 : ¬ smW t W k = true → Q (Sum.inl (some (.int (iI 0)))) c) : CW g B O 27 0 [some (.ref p), some (.int (iI k))] [] c Q := by
  have hP' := hP
  obtain ⟨p1, ⟨s, s1, s2, s3⟩, -, -, -, p6⟩ := hP
  refine c27_0 ⟨p1, s, s1, p1, t28 hP' hk ?_⟩ (hx1 := by omega)
  refine cq_R fun hR => ?_
  have hr := (hR.2.1 s s2).2 ((W.getD k (0, 0)).1 : Nat)
  have e : sg (yT c s) ((W.getD k (0, 0)).1 : Nat) = t.getD (W.getD k (0, 0)).1 0 := by rw [s3, sg_nat]
  rw [e] at hr
  by_cases hb : ((W.getD k (0, 0)).1 : Int) ≤ 2147483647
  · refine c27_9 ⟨s2, ?_⟩ (hu0 := by omega)
    rw [e]
    exact t89 (by omega) (fun q => c27_15 ⟨Or.inr rfl, h1 q⟩) (fun q => c27_15 ⟨Or.inl rfl, h2 q⟩)
  · obtain ⟨-, -, ⟨a, -, a2, -, a4⟩, -⟩ := hP'
    have := hR.1 a k
    rw [a4 k hk] at this
    omega
/-- words with blanks between -/
theorem t34 {f e : Nat} (hP : PW c p t W) (hW : WOK t W) (ht : t.length ≤ 80) (ho : yK c r = 7) (hr : ¬ yP c p 0 = some r) (hf : f ≤ 100) (he : e ≤ W.length) (hl : (yT c r).length + wl (slc (wcs t W) f e) ≤ 1024) (h : Q (Sum.inl none) (wT c r (yT c r ++ jn (slc (wcs t W) f e)))) : CW g B O 34 0 [some (.ref p), some (.int (iI f)), some (.int (iI e)), some (.ref r), none, none] [] c Q := by
  have hP6 := hP.2.2.2.2.2
  have hwl : (wcs t W).length = W.length := wcs_len
  refine c34_0 ?_
  rw [show max (f : Int) 0 = f by omega]
  have stop : ∀ (k : Nat) {l4 l5 : Option Value}, e ≤ k → f ≤ k → (f = k ∨ k = e) → CW g B O 34 80 [some (.ref p), some (.int (iI f)), some (.int (iI e)), some (.ref r), l4, l5] [] (wT c r (yT c r ++ jn (slc (wcs t W) f k))) Q := fun k l4 l5 q1 q2 q3 => by
    refine c34_80 ?_
    have : slc (wcs t W) f k = slc (wcs t W) f e := by
      rcases q3 with q | q
      · rw [slc_nil (by omega), slc_nil (by omega)]
      · rw [q]
    rw [this]
    exact h
  have loop : ∀ (n k : Nat) {l5 : Option Value}, e - k = n → f ≤ k → (f = k ∨ k ≤ e) → CW g B O 34 7 [some (.ref p), some (.int (iI f)), some (.int (iI e)), some (.ref r), some (.int (iI k)), l5] [] (wT c r (yT c r ++ jn (slc (wcs t W) f k))) Q := by
    intro n
    induction n with
    | zero =>
      intro k l5 n1 n2 n3
      have hP7 := hP.out (l := yT c r ++ jn (slc (wcs t W) f k)) hr
      exact c34_7 ⟨fun _ => stop k (by omega) n2 (by omega), fun q => by omega⟩ (hx4 := by omega)
    | succ n ih =>
      intro k l5 n1 n2 n3
      have hkW : k < W.length := by omega
      have hsn := slc_snoc (ws := wcs t W) (f := f) (k := k) n2 (by omega)
      rw [wcs_get hkW] at hsn
      obtain ⟨w1, w2⟩ := hW k hkW
      have hmon := slc_mono (wcs t W) f (k + 1) e (by omega)
      have hmon0 := slc_mono (wcs t W) f k e (by omega)
      rw [hsn, wl_app, wl_one, sl_len w2] at hmon
      have hjl := jn_len (slc (wcs t W) f k)
      -- the characters of one word
      have inner : ∀ (n i : Nat) (Z : List Int), (W.getD k (0, 0)).2 - i = n → (W.getD k (0, 0)).1 ≤ i → i ≤ (W.getD k (0, 0)).2 → Z.length + n ≤ 1024 → Z ++ sl t i (W.getD k (0, 0)).2 = yT c r ++ jn (slc (wcs t W) f (k + 1)) → CW g B O 34 43 [some (.ref p), some (.int (iI f)), some (.int (iI e)), some (.ref r), some (.int (iI k)), some (.int (iI i))] [] (wT c r Z) Q := by
        intro n
        induction n with
        | zero =>
          intro i Z i1 i2 i3 i4 i5
          have hP7 := hP.out (l := Z) hr
          obtain ⟨p1, -, -, ⟨a, a1, a2, a3, a4⟩, -⟩ := hP7
          rw [show i = (W.getD k (0, 0)).2 by omega, sl_self, List.append_nil] at i5
          refine c34_43 ⟨p1, a, a1, a2, by omega, ?_⟩ (hx5 := by omega)
          rw [a4 k hkW]
          refine ⟨fun _ => ⟨by omega, ?_⟩, fun q => by omega⟩
          rw [i5]
          exact ih (k + 1) (by omega) (by omega) (by omega)
        | succ n ih2 =>
          intro i Z i1 i2 i3 i4 i5
          refine cq_R fun hR => ?_
          have hP7 := hP.out (l := Z) hr
          obtain ⟨p1, ⟨s, s1, s2, s3⟩, -, ⟨a, a1, a2, a3, a4⟩, -⟩ := hP7
          have hsg := (hR.2.1 s s2).2 i
          have esg : sg (yT (wT c r Z) s) i = t.getD i 0 := by rw [s3, sg_nat]
          rw [esg] at hsg
          refine c34_43 ⟨p1, a, a1, a2, by omega, ?_⟩ (hx5 := by omega)
          rw [a4 k hkW]
          refine ⟨fun q => by omega, fun _ => ⟨p1, s, s1, s2, ho, by rw [esg]; exact hsg, by rw [yT_wT]; omega, fun d ed => ⟨by omega, ?_⟩⟩⟩
          rw [esg, yT_wT, wT_wT] at ed
          rw [ed]
          refine ih2 (i + 1) (Z ++ [t.getD i 0]) (by omega) (by omega) (by omega) (by rw [List.length_append]; show _ + 1 + _ ≤ _; omega) ?_
          rw [← i5, List.append_assoc, sl_cons (i := i) (by omega) w2]
          rfl
      have start : ∀ (Z : List Int) {l5 : Option Value}, Z.length + ((W.getD k (0, 0)).2 - (W.getD k (0, 0)).1) ≤ 1024 → Z ++ sl t (W.getD k (0, 0)).1 (W.getD k (0, 0)).2 = yT c r ++ jn (slc (wcs t W) f (k + 1)) → CW g B O 34 34 [some (.ref p), some (.int (iI f)), some (.int (iI e)), some (.ref r), some (.int (iI k)), l5] [] (wT c r Z) Q := fun Z l5 hZ hZ2 => by
        have hP7 := hP.out (l := Z) hr
        obtain ⟨p1, -, ⟨a, a1, a2, a3, a4⟩, -⟩ := hP7
        refine c34_34 ⟨p1, a, a1, a2, by omega, ?_⟩
        rw [a4 k hkW]
        exact inner _ _ Z rfl (Nat.le_refl _) (by omega) hZ hZ2
      have hP7 := hP.out (l := yT c r ++ jn (slc (wcs t W) f k)) hr
      have p3 := hP7.2.2.2.2.1
      refine c34_7 ⟨fun q => by omega, fun _ => ⟨hP7.1, fun q => by omega, fun _ => ⟨fun q => start _ ?_ ?_, fun q => ⟨ho, by decide, ?_, fun d ed => ?_⟩⟩⟩⟩
      · rw [List.length_append]
        have := jn_le (slc (wcs t W) f k)
        omega
      · rw [hsn, slc_nil (by omega), List.nil_append]
        show yT c r ++ [] ++ _ = yT c r ++ (sl t (W.getD k (0, 0)).1 (W.getD k (0, 0)).2 ++ [])
        rw [List.append_nil, List.append_nil]
      · rw [yT_wT, List.length_append]
        rw [if_neg (slc_ne (by omega) (by omega))] at hjl
        omega
      · rw [yT_wT, wT_wT] at ed
        rw [ed]
        have hne := slc_ne (ws := wcs t W) (f := f) (k := k) (by omega) (by omega)
        rw [if_neg hne] at hjl
        refine start _ ?_ ?_
        · rw [List.length_append, List.length_append]
          show _ + _ + 1 + _ ≤ _
          omega
        · rw [hsn, jn_snoc, if_neg hne]
          simp
  have := loop _ f (l5 := none) rfl (Nat.le_refl _) (Or.inl rfl)
  rw [slc_nil (Nat.le_refl _)] at this
  have e0 : wT c r (yT c r ++ jn []) = c := by
    show wT c r (yT c r ++ []) = c
    rw [List.append_nil, wT_self]
  rw [e0] at this
  exact this
end CPers
