/-! THE LISTING -/
def LI (c : CS) (ℓ : LB) (li : Nat) : Prop := yK c li = 3 ∧ yK c (ℓ li).1 = 8 ∧ ℓ (ℓ li).1 = ((ℓ li).1, 0)
/-- what a listing owns itself -/
def SL (ℓ : LB) (li a : Nat) : Prop := a = li ∨ (ℓ a).1 = li
theorem OR_rt {ℓ : LB} {r a : Nat} (hr : ℓ r = (r, 0)) (h : OR ℓ r a) : (ℓ (ℓ a).1).1 = r := by
  rcases h with q | q
  · rw [q, hr]
  · exact q
theorem OR_SL {c : CS} {ℓ : LB} {li r a : Nat} (hL : LI c ℓ li) (hr : ℓ r = (r, 0)) (hK : yK c r = 6) (h : OR ℓ r a) : ¬ SL ℓ li a := by
  have e := OR_rt hr h
  obtain ⟨l1, l2, l3⟩ := hL
  intro q
  rcases q with q | q
  · rw [q, l3] at e
    have e : (ℓ li).1 = r := e
    rw [e] at l2
    omega
  · rw [q] at e
    rw [e] at l2
    omega
theorem EO_SL {c : CS} {ℓ : LB} {li a : Nat} (hL : LI c ℓ li) (h : EO c ℓ (ℓ a).1) : ¬ SL ℓ li a := by
  obtain ⟨l1, l2, l3⟩ := hL
  obtain ⟨e1, e2⟩ := h
  intro q
  rcases q with q | q
  · rw [q] at e1; omega
  · rw [q] at e1; omega
theorem EO_OR {c : CS} {ℓ : LB} {r a : Nat} (hr : ℓ r = (r, 0)) (hK : yK c r = 6) (h : EO c ℓ (ℓ a).1) : ¬ OR ℓ r a := by
  intro q
  have e := OR_rt hr q
  rw [h.2] at e
  have e : (ℓ a).1 = r := e
  have := h.1
  rw [e] at this
  omega
/-- what no listing writes -/
def GL (c : CS) (ℓ : LB) (li a : Nat) : Prop := ¬ SL ℓ li a ∧ ¬ yK c (ℓ a).1 = 0 ∧ ¬ yK c (ℓ (ℓ a).1).1 = 0 ∧ ¬ yK c (ℓ (ℓ a).1).1 = 6
def FL (li : Nat) (ℓ ℓ' : LB) (c d : CS) : Prop := (∀ a, ¬ yK c a = 0 → yK d a = yK c a ∧ ℓ' a = ℓ a) ∧ ∀ a, ¬ yK c a = 0 → GL c ℓ li a → Kp c d a
theorem FL.rfl {li : Nat} {ℓ : LB} {c : CS} : FL li ℓ ℓ c c := ⟨fun _ _ => ⟨by rfl, by rfl⟩, fun _ _ _ => Kp.rfl⟩
theorem FL.trans {li : Nat} {ℓ ℓ' ℓ'' : LB} {c d e : CS} (h : FL li ℓ ℓ' c d) (h' : FL li ℓ' ℓ'' d e) : FL li ℓ ℓ'' c e := by
  refine ⟨fun a ha => ?_, fun a ha hG => ?_⟩
  · obtain ⟨q1, q2⟩ := h.1 a ha
    obtain ⟨r1, r2⟩ := h'.1 a (by rw [q1]; exact ha)
    exact ⟨r1.trans q1, r2.trans q2⟩
  · obtain ⟨q1, q2⟩ := h.1 a ha
    refine (h.2 a ha hG).trans (h'.2 a (by rw [q1]; exact ha) ?_)
    obtain ⟨g1, g2, g3, g4⟩ := hG
    obtain ⟨s1, s2⟩ := h.1 _ g2
    obtain ⟨t1, t2⟩ := h.1 _ g3
    unfold GL SL
    rw [q2, s1, s2, t1]
    exact ⟨g1, g2, g3, g4⟩
theorem FS.fo {c d : CS} {ℓ ℓ' : LB} {li r : Nat} (h : FS (OR ℓ r) ℓ ℓ' c d) (hr : ℓ r = (r, 0)) (hK : yK c r = 6) : FL li ℓ ℓ' c d :=
  ⟨h.1, fun a ha hG => h.2 a ha (fun q => by have e := OR_rt hr q; have := hG.2.2.2; rw [e] at this; exact this hK)⟩
theorem FS.fl {c d : CS} {ℓ ℓ' : LB} {li : Nat} (h : FS (SL ℓ li) ℓ ℓ' c d) : FL li ℓ ℓ' c d := ⟨h.1, fun a ha hG => h.2 a ha hG.1⟩
theorem LI.fs {c d : CS} {ℓ ℓ' : LB} {li : Nat} (h : LI c ℓ li) (hF : ∀ a, ¬ yK c a = 0 → yK d a = yK c a ∧ ℓ' a = ℓ a) : LI d ℓ' li := by
  obtain ⟨l1, l2, l3⟩ := h
  obtain ⟨q1, q2⟩ := hF li (by omega)
  obtain ⟨s1, s2⟩ := hF (ℓ li).1 (by omega)
  unfold LI
  rw [q1, q2, s1, s2]
  exact ⟨l1, l2, l3⟩
def LsI (c : CS) (ℓ : LB) (li rl me mf : Nat) (Rs : List Nat) : Prop := (LI c ℓ li ∧ yP c li 0 = some rl ∧ yP c li 3 = some me ∧ yP c li 4 = some mf) ∧ (yK c rl = 1 ∧ ℓ rl = (li, 1) ∧ yE c rl = Rs) ∧ (yK c me = 101 ∧ ℓ me = (li, 2) ∧ yI c me (-1) = 96) ∧ (yK c mf = 101 ∧ ℓ mf = (li, 3) ∧ yI c mf (-1) = 96) ∧ Rs.length ≤ 24 ∧ (∀ i j, i < Rs.length → j < Rs.length → Rs.getD i 0 = Rs.getD j 0 → i = j) ∧ ∀ i, i < Rs.length → RoI c ℓ (Rs.getD i 0)
def LC (c : CS) (ℓ : LB) (li rl me mf : Nat) (Es : List Nat) (D : Db) (Rs L : List Nat) : Prop := DOK D ∧ EI c ℓ Es D ∧ DL (dN D) L ∧ LsI c ℓ li rl me mf Rs ∧ yI c li 1 = L.length ∧ L.length ≤ Rs.length ∧ ∀ i, i < L.length → RoV c ℓ Es D (Rs.getD i 0) (L.getD i 0)
section CList
variable {g : Nat → Nat} {B : Nat} {O : Nat → Prop} {c d : CS} {Q : Rs → CS → Prop} {ℓ ℓ' : LB} {Es Rs L : List Nat} {D : Db} {li rl me mf r n : Nat}
theorem hlF {P : Nat → Prop} (hF : FS P ℓ ℓ' c d) : ∀ a, ¬ yK c a = 0 → ℓ' a = ℓ a ∧ yK d a = yK c a := fun a ha => ⟨(hF.1 a ha).2, (hF.1 a ha).1⟩
theorem RoI.sl (h : RoI c ℓ r) (hL : LI c ℓ li) (hF : FS (SL ℓ li) ℓ ℓ' c d) : RoI d ℓ' r :=
  h.keep (hlF hF) (fun a ha o => hF.2 a ha (OR_SL hL h.1.2 h.1.1 o))
theorem RoV.sl (h : RoV c ℓ Es D r n) (hI : RoI c ℓ r) (hL : LI c ℓ li) (hF : FS (SL ℓ li) ℓ ℓ' c d) : RoV d ℓ' Es D r n :=
  h.keep hI (hlF hF) (fun a ha o _ => hF.2 a ha (OR_SL hL hI.1.2 hI.1.1 o)) (hF.2 r (by have := hI.1.1; omega) (OR_SL hL hI.1.2 hI.1.1 (Or.inl (by rw [hI.1.2])))).2.2.1 (fun a ha e => hF.2 a (by omega) (EO_SL hL e))
theorem EI.sl (h : EI c ℓ Es D) (hL : LI c ℓ li) (hF : FS (SL ℓ li) ℓ ℓ' c d) : EI d ℓ' Es D :=
  h.keep (fun a ha => (hF.1 a ha).2) (fun a ha e => hF.2 a ha (EO_SL hL e))
/-- a row's slots: what another row does not touch -/
theorem LsI.ne (h : LsI c ℓ li rl me mf Rs) {i k a : Nat} (hi : i < Rs.length) (hk : k < Rs.length) (hn : ¬ i = k) (o : OR ℓ (Rs.getD i 0) a) : ¬ OR ℓ (Rs.getD k 0) a := fun o' => by
  obtain ⟨-, -, -, -, -, s2, s3⟩ := h
  have e1 := OR_rt (s3 i hi).1.2 o
  have e2 := OR_rt (s3 k hk).1.2 o'
  exact hn (s2 i k hi hk (e1.symm.trans e2))
theorem LC.row (h : LC c ℓ li rl me mf Es D Rs L) {k : Nat} (hk : k < Rs.length) (hF : FS (OR ℓ (Rs.getD k 0)) ℓ ℓ' c d) (hI : RoI d ℓ' (Rs.getD k 0)) (hV : k < L.length → RoV d ℓ' Es D (Rs.getD k 0) (L.getD k 0)) : LC d ℓ' li rl me mf Es D Rs L := by
  obtain ⟨h1, h2, h3, h4, c1, c2, c3⟩ := h
  have hne := @LsI.ne _ _ _ _ _ _ _ h4
  obtain ⟨⟨l1, l2, l3, l4⟩, ⟨r1, r2, r3⟩, ⟨m1, m2, m3⟩, ⟨n1, n2, n3⟩, s1, s2, s3⟩ := h4
  obtain ⟨rk, rlb⟩ := (s3 k hk).1
  have nS : ∀ a, ¬ yK c a = 0 → SL ℓ li a → Kp c d a := fun a ha q => hF.2 a ha (fun o => OR_SL l1 rlb rk o q)
  have lk := l1.1
  have kli := nS li (by omega) (Or.inl rfl)
  have krl := nS rl (by omega) (Or.inr (by rw [r2]))
  have kme := nS me (by omega) (Or.inr (by rw [m2]))
  have kmf := nS mf (by omega) (Or.inr (by rw [n2]))
  have hl := hlF hF
  refine ⟨h1, h2.keep (fun a ha => (hl a ha).1) (fun a ha e => hF.2 a ha (EO_OR rlb rk e)), h3, ⟨⟨l1.fs hF.1, by rw [kli.2.2.1]; exact l2, by rw [kli.2.2.1]; exact l3, by rw [kli.2.2.1]; exact l4⟩, ⟨by rw [krl.1]; exact r1, by rw [(hl rl (by omega)).1]; exact r2, by rw [krl.2.2.2.2]; exact r3⟩, ⟨by rw [kme.1]; exact m1, by rw [(hl me (by omega)).1]; exact m2, by rw [kme.2.1]; exact m3⟩, ⟨by rw [kmf.1]; exact n1, by rw [(hl mf (by omega)).1]; exact n2, by rw [kmf.2.1]; exact n3⟩, s1, s2, fun i hi => ?_⟩, by rw [kli.2.1]; exact c1, c2, fun i hi => ?_⟩
  · by_cases q : i = k
    · rw [q]; exact hI
    · exact (s3 i hi).keep hl (fun a ha o => hF.2 a ha (hne hi hk q o))
  · by_cases q : i = k
    · rw [q] at hi ⊢; exact hV hi
    · have hi' : i < Rs.length := by omega
      have ik := (s3 i hi').1
      exact (c3 i hi).keep (s3 i hi') hl (fun a ha o _ => hF.2 a ha (hne hi' hk q o)) (hF.2 _ (by have := ik.1; omega) (hne hi' hk q (Or.inl (by rw [ik.2])))).2.2.1 (fun a ha e => hF.2 a (by omega) (EO_OR rlb rk e))
/-- what a row's methods need -/
theorem LC.rc (h : LC c ℓ li rl me mf Es D Rs L) {i : Nat} (hi : i < L.length) : RC c ℓ Es D (Rs.getD i 0) (L.getD i 0) := by
  obtain ⟨h1, h2, h3, ⟨-, -, -, -, -, -, s3⟩, -, c2, c3⟩ := h
  exact ⟨h1, h2, h3.2 _ (mem_gD hi), s3 i (by omega), c3 i hi⟩
/-- another state of the listing's own -/
theorem LC.own (h : LC c ℓ li rl me mf Es D Rs L) (hF : FS (SL ℓ li) ℓ ℓ' c d) {L' : List Nat} (hL' : DL (dN D) L') {f : Nat → Nat} {Rs' : List Nat} (hP : yP d li 0 = some rl ∧ yP d li 3 = some me ∧ yP d li 4 = some mf) (hE : yE d rl = Rs') (hm : yI d me (-1) = 96 ∧ yI d mf (-1) = 96) (hc : yI d li 1 = L'.length) (hl : L'.length ≤ L.length) (hR : Rs'.length = Rs.length) (hf : ∀ i, i < Rs.length → f i < Rs.length ∧ Rs'.getD i 0 = Rs.getD (f i) 0) (hi : ∀ i j, i < Rs.length → j < Rs.length → f i = f j → i = j) (hv : ∀ i, i < L'.length → f i < L.length ∧ L'.getD i 0 = L.getD (f i) 0) : LC d ℓ' li rl me mf Es D Rs' L' := by
  obtain ⟨h1, h2, h3, ⟨⟨l1, l2, l3, l4⟩, ⟨r1, r2, r3⟩, ⟨m1, m2, m3⟩, ⟨n1, n2, n3⟩, s1, s2, s3⟩, c1, c2, c3⟩ := h
  have hl' := hlF hF
  refine ⟨h1, h2.sl l1 hF, hL', ⟨⟨l1.fs hF.1, hP⟩, ⟨by rw [(hl' rl (by omega)).2]; exact r1, by rw [(hl' rl (by omega)).1]; exact r2, hE⟩, ⟨by rw [(hl' me (by omega)).2]; exact m1, by rw [(hl' me (by omega)).1]; exact m2, hm.1⟩, ⟨by rw [(hl' mf (by omega)).2]; exact n1, by rw [(hl' mf (by omega)).1]; exact n2, hm.2⟩, by omega, fun i j q1 q2 e => ?_, fun i q => ?_⟩, hc, by omega, fun i q => ?_⟩
  · rw [hR] at q1 q2
    obtain ⟨f1, f2⟩ := hf i q1
    obtain ⟨f3, f4⟩ := hf j q2
    rw [f2, f4] at e
    exact hi i j q1 q2 (s2 _ _ f1 f3 e)
  · rw [hR] at q
    obtain ⟨f1, f2⟩ := hf i q
    rw [f2]
    exact (s3 _ f1).sl l1 hF
  · obtain ⟨v1, v2⟩ := hv i q
    obtain ⟨f1, f2⟩ := hf i (by omega)
    rw [f2, v2]
    exact (c3 _ v1).sl (s3 _ f1) l1 hF
/-- one more row is told -/
theorem LC.more (h : LC c ℓ li rl me mf Es D Rs L) (hF : FS (SL ℓ li) ℓ ℓ' c d) (hk : L.length < Rs.length) (hn : n < dN D) (hnL : ¬ n ∈ L) (hV : RoV c ℓ Es D (Rs.getD L.length 0) n) (hP : yP d li = yP c li) (hE : yE d rl = Rs) (hm : yI d me = yI c me ∧ yI d mf = yI c mf) (hc : yI d li 1 = L.length + 1) : LC d ℓ' li rl me mf Es D Rs (L ++ [n]) := by
  obtain ⟨h1, h2, h3, ⟨⟨l1, l2, l3, l4⟩, ⟨r1, r2, r3⟩, ⟨m1, m2, m3⟩, ⟨n1, n2, n3⟩, s1, s2, s3⟩, c1, c2, c3⟩ := h
  have hl' := hlF hF
  have hA : addN L n = L ++ [n] := if_neg hnL
  have hlen : (L ++ [n]).length = L.length + 1 := by rw [List.length_append]; rfl
  refine ⟨h1, h2.sl l1 hF, by rw [← hA]; exact addN_DL h3 hn, ⟨⟨l1.fs hF.1, by rw [hP]; exact l2, by rw [hP]; exact l3, by rw [hP]; exact l4⟩, ⟨by rw [(hl' rl (by omega)).2]; exact r1, by rw [(hl' rl (by omega)).1]; exact r2, hE⟩, ⟨by rw [(hl' me (by omega)).2]; exact m1, by rw [(hl' me (by omega)).1]; exact m2, by rw [hm.1]; exact m3⟩, ⟨by rw [(hl' mf (by omega)).2]; exact n1, by rw [(hl' mf (by omega)).1]; exact n2, by rw [hm.2]; exact n3⟩, s1, s2, fun i q => (s3 _ q).sl l1 hF⟩, by rw [hc, hlen]; omega, by omega, fun i q => ?_⟩
  by_cases e : i = L.length
  · rw [e, gA_ge (Nat.le_refl _), Nat.sub_self]
    exact hV.sl (s3 _ hk) l1 hF
  · rw [gA_lt (by omega)]
    exact (c3 i (by omega)).sl (s3 _ (by omega)) l1 hF
theorem t6 (hL : yK c li = 3) (hn : yI c li 1 = L.length) (h24 : L.length ≤ 24) (h : Q (Sum.inl (some (.int (iI L.length)))) c) : CW g B O 6 0 [some (.ref li)] [] c Q := by
  refine c6_0 ⟨hL, ?_⟩
  rw [hn]
  exact h
theorem t7 {k : Nat} (hI : LsI c ℓ li rl me mf Rs) (hk : k < Rs.length) (h : Q (Sum.inl (some (.ref (Rs.getD k 0)))) c) : CW g B O 7 0 [some (.ref li), some (.int (iI k))] [] c Q := by
  obtain ⟨⟨l1, l2, l3, l4⟩, ⟨r1, r2, r3⟩, -, -, s1, s2, s3⟩ := hI
  refine c7_0 ⟨l1.1, rl, l2, r1, by rw [r3]; omega, Rs.getD k 0, by rw [r3, Int.toNat_natCast], (s3 k hk).1.1, h⟩
end CList
