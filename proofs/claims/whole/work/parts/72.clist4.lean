/-! listing: bases and letters -/
section CList4
variable {g : Nat → Nat} {B : Nat} {O : Nat → Prop} {c d : CS} {Q : Rs → CS → Prop} {ℓ ℓ' : LB} {Es Rs L : List Nat} {D : Db} {li rl me mf r n : Nat}
theorem mis_al (D : Db) (n m : Nat) : misB D n m = alB D n m := by
  unfold misB alB iniT famT
  rw [decide_eq_decide]
  constructor
  · rintro ⟨h1, h2, h3, h4⟩
    rw [if_neg (by omega), if_neg (by omega)] at h3 h4
    refine ⟨fun e => h3 (by rw [e]), h1, h2, h4, h3⟩
  · rintro ⟨-, h1, h2, h4, h3⟩
    refine ⟨h1, h2, ?_, ?_⟩
    · rw [if_neg (by omega), if_neg (by omega)]; exact h3
    · rw [if_neg (by omega), if_neg (by omega)]; exact h4
theorem mis_alk (D : Db) (L : List Nat) (n : Nat) : L.any (misB D n) = alk D L n := by
  have : misB D n = alB D n := funext (mis_al D n)
  rw [this]
  rfl
theorem t12 (h : LC c ℓ li rl me mf Es D Rs L) (hr : RC c ℓ Es D r n) (hQ : Q (Sum.inl (some (.int (iI (if alk D L n = true then 1 else 0))))) c) : CW g B O 12 0 [some (.ref li), some (.ref r), none] [] c Q := by
  have h' := h
  obtain ⟨h1, h2, h3, ⟨⟨l1, l2, l3, l4⟩, ⟨r1, r2, r3⟩, -, -, s1, s2, s3⟩, c1, c2, c3⟩ := h
  rw [← mis_alk] at hQ
  have loop : ∀ (m k : Nat), L.length - k = m → k ≤ L.length → (∀ i, i < k → ¬ misB D n (L.getD i 0) = true) → CW g B O 12 2 [some (.ref li), some (.ref r), some (.int (iI k))] [] c Q := by
    intro m
    induction m with
    | zero =>
      intro k q1 q2 q3
      refine c12_2 ⟨l1.1, fun _ => ?_, fun q => by omega⟩ (hx2 := by omega)
      rw [if_neg] at hQ
      · exact hQ
      · intro q
        obtain ⟨x, x1, x2⟩ := List.any_eq_true.mp q
        obtain ⟨i, i1, i2⟩ := gD_mem x1
        exact q3 i (by omega) (by rw [i2]; exact x2)
    | succ m ih =>
      intro k q1 q2 q3
      have hk : k < L.length := by omega
      have rk := (s3 k (by omega)).1.1
      refine c12_2 ⟨l1.1, fun q => by omega, fun _ => ⟨l1.1, rl, l2, r1, by rw [r3]; omega, Rs.getD k 0, by rw [r3, Int.toNat_natCast], rk, hr.rk, t42 hr (h'.rc hk) ?_⟩⟩ (hx2 := by omega)
      by_cases z : misB D n (L.getD k 0) = true
      · rw [if_pos z]
        refine c12_25 ⟨fun q => by omega, fun _ => ?_⟩ (hx2 := by omega)
        rw [if_pos (List.any_eq_true.mpr ⟨_, mem_gD hk, z⟩)] at hQ
        exact hQ
      · rw [if_neg z]
        refine c12_25 ⟨fun _ => ⟨by omega, ?_⟩, fun q => by omega⟩ (hx2 := by omega)
        refine ih (k + 1) (by omega) (by omega) (fun i hi => ?_)
        by_cases w : i = k
        · rw [w]; exact z
        · exact q3 i (by omega)
  exact c12_0 (loop _ 0 rfl (Nat.zero_le _) (fun i hi => absurd hi (Nat.not_lt_zero _)))
theorem t11 {lb : Int} (h : LC c ℓ li rl me mf Es D Rs L) (hlb : 0 ≤ lb ∧ lb ≤ 2) (hQ : ∀ d, LC d ℓ li rl me mf Es D Rs L → FL li ℓ ℓ c d → yU d = yU c → yI d = yI c → (∀ k, k < L.length → TxJ d (Rs.getD k 0) 5 (base D lb L (L.getD k 0))) → Q (Sum.inl none) d) : CW g B O 11 0 [some (.ref li), some (.int (iI lb)), none] [] c Q := by
  have h24 : L.length ≤ 24 := by have := h.2.2.2.2.2.1; have := h.2.2.2.1.2.2.2.2.1; omega
  have loop : ∀ (m k : Nat) (d : CS), L.length - k = m → k ≤ L.length → LC d ℓ li rl me mf Es D Rs L → FL li ℓ ℓ c d → yU d = yU c → yI d = yI c → (∀ i, i < k → TxJ d (Rs.getD i 0) 5 (base D lb L (L.getD i 0))) → CW g B O 11 2 [some (.ref li), some (.int (iI lb)), some (.int (iI k))] [] d Q := by
    intro m
    induction m with
    | zero =>
      intro k d q1 q2 q3 q4 q5 q6 q7
      have c1 := q3.2.2.2.2.1
      have : k = L.length := by omega
      exact c11_2 ⟨q3.2.2.2.1.1.1.1, fun _ => hQ d q3 q4 q5 q6 (by rw [← this]; exact q7), fun q => by omega⟩ (hx1 := by omega)
    | succ m ih =>
      intro k d q1 q2 q3 q4 q5 q6 q7
      have q3' := q3
      obtain ⟨h1, h2, h3, hLs, c1, c2, c3⟩ := q3
      have hLs' := hLs
      obtain ⟨⟨l1, l2, l3, l4⟩, ⟨r1, r2, r3⟩, -, -, s1, s2, s3⟩ := hLs
      have hk : k < L.length := by omega
      have rk := (s3 k (by omega)).1
      have hg : (yE d rl).getD ((k : Nat) : Int).toNat 0 = Rs.getD k 0 := by rw [r3, Int.toNat_natCast]
      obtain ⟨a, a1, a2, a3⟩ := hLs'.slot (i := k) (j := 5) (by omega) (Or.inr (Or.inr (Or.inr (Or.inl rfl))))
      refine c11_2 ⟨l1.1, fun q => by omega, fun _ => ⟨l1.1, rl, l2, r1, by rw [r3]; omega, Rs.getD k 0, hg, rk.1, l1.1, rl, l2, r1, by rw [r3]; omega, Rs.getD k 0, hg, rk.1, l1.1, t12 q3' (q3'.rc hk) ?_⟩⟩ (hx1 := by omega)
      have h01 : (0 : Int) ≤ (if alk D L (L.getD k 0) = true then 1 else 0) ∧ (if alk D L (L.getD k 0) = true then (1 : Int) else 0) ≤ 1 := by split <;> omega
      refine c11_37 ⟨rk.1, t43 (al := alk D L (L.getD k 0)) (q3'.rc hk) a1 a2 a3 hlb ?_⟩ (hx1 := by omega) (hu0 := by omega) (hu1 := by omega)
      refine c11_40 ⟨by omega, ?_⟩ (hx1 := by omega)
      refine ih (k + 1) _ (by omega) (by omega) (q3'.out hk a3 (Or.inr (Or.inl rfl))) (q4.trans ((FS_out a3).fo rk.2 rk.1)) q5 q6 (fun i hi => ?_)
      by_cases w : i = k
      · rw [w]
        exact ⟨a, a1, yT_wT _ _ _⟩
      · exact TxJ.out hLs' (by omega) (k := k) (j' := 5) (by omega) (Or.inr (Or.inr (Or.inr (Or.inl rfl)))) (by omega) a3 (q7 i (by omega))
  exact c11_0 (loop _ 0 c rfl (Nat.zero_le _) h FL.rfl rfl rfl (fun i hi => absurd hi (Nat.not_lt_zero _))) (hx1 := by omega)
/-- the letters of the rows, and their bases -/
def SI (c d : CS) (ℓ : LB) (li rl me mf : Nat) (Es : List Nat) (D : Db) (Rs L : List Nat) (Bs : List (List Int)) (F : Nat → Int) : Prop := LC d ℓ li rl me mf Es D Rs L ∧ FL li ℓ ℓ c d ∧ yU d = yU c ∧ yI d li 2 = yI c li 2 ∧ (∀ k, k < L.length → yI d (Rs.getD k 0) 6 = F k) ∧ ∀ k, k < L.length → TxJ d (Rs.getD k 0) 5 (Bs.getD k [])
theorem FS_sfx {r : Nat} {x : Int} (hr : ℓ r = (r, 0)) : FS (OR ℓ r) ℓ ℓ c (wI c r 6 x) := ⟨fun _ _ => ⟨rfl, rfl⟩, fun a _ q => Kp_wI (fun e => q (Or.inl (by rw [e, hr])))⟩
theorem RoI.sfx {x : Int} (h : RoI c ℓ r) : RoI (wI c r 6 x) ℓ r := by
  obtain ⟨⟨i1, i2⟩, ⟨p, q1, q2, q3⟩, i4⟩ := h
  have rp : ¬ r = p := kne i1 q3.1 (by decide)
  exact ⟨⟨i1, i2⟩, ⟨p, q1, q2, q3.fs (r := r) ⟨fun _ _ => ⟨rfl, rfl⟩, fun a _ q => Kp_wI q⟩ (by rw [i2]; exact rp) rp⟩, i4⟩
theorem RoV.sfx {x : Int} (h : RoV c ℓ Es D r n) (hI : RoI c ℓ r) : RoV (wI c r 6 x) ℓ Es D r n := by
  obtain ⟨h1, ⟨p, p1, p2, s, s1, s2, s3⟩, h3, h4⟩ := h
  obtain ⟨⟨i1, i2⟩, ⟨p', q1, q2, q3⟩, i4⟩ := hI
  rw [p1] at q1
  cases q1
  have rp : ¬ r = p := kne i1 q3.1 (by decide)
  refine ⟨h1, ⟨p, p1, p2.keep q3 s1 (fun a ha hS => Kp_wI (fun e => ?_)), s, s1, s2, s3⟩, h3, h4⟩
  rcases hS with (q | q) | q
  · exact rp (e.symm.trans q)
  · rw [e, i2] at q; exact rp q
  · rw [← q, e] at s2; omega
theorem SI.set {Bs : List (List Int)} {F : Nat → Int} (h : SI c d ℓ li rl me mf Es D Rs L Bs F) {k : Nat} {x : Int} (hk : k < L.length) : SI c (wI d (Rs.getD k 0) 6 x) ℓ li rl me mf Es D Rs L Bs (fun i => if i = k then x else F i) := by
  obtain ⟨h1, h2, h3, h4, h5, h6⟩ := h
  have hLs := h1.2.2.2.1
  have hLR := h1.2.2.2.2.2.1
  have hkR : k < Rs.length := by omega
  obtain ⟨⟨l1, l2, l3, l4⟩, -, -, -, s1, s2, s3⟩ := hLs
  have ri := s3 k hkR
  have nl : ¬ li = Rs.getD k 0 := kne l1.1 ri.1.1 (by decide)
  refine ⟨h1.row hkR (FS_sfx ri.1.2) ri.sfx (fun _ => (h1.2.2.2.2.2.2 k hk).sfx ri), h2.trans ((FS_sfx ri.1.2).fo ri.1.2 ri.1.1), h3, by rw [(Kp_wI nl).2.1]; exact h4, fun i hi => ?_, h6⟩
  rw [yI_wI]
  dsimp only
  by_cases w : i = k
  · rw [if_pos ⟨by rw [w], rfl⟩, if_pos w]
  · rw [if_neg (fun q => w (s2 i k (by omega) hkR q.1)), if_neg w]
    exact h5 i hi
theorem cnt_snoc {Bs : List (List Int)} {b : List Int} {j : Nat} (hj : j < Bs.length) : (Bs.take (j + 1)).count b = (Bs.take j).count b + if Bs.getD j [] = b then 1 else 0 := by
  rw [take_snoc (d := []) hj, List.count_append, List.count_singleton]
  congr 1
  by_cases q : Bs.getD j [] = b
  · rw [if_pos q, if_pos (by rw [q]; exact beq_self_eq_true b)]
  · rw [if_neg q, if_neg (fun e => q (eq_of_beq e))]
def fmk (Bs : List (List Int)) (i j : Nat) (F : Nat → Int) (k : Nat) : Int := if Bs.getD k [] = Bs.getD i [] ∧ i < k ∧ k < j then ((Bs.take (k + 1)).count (Bs.getD i []) : Nat) else if k = i then (if (Bs.take j).count (Bs.getD i []) ≤ 1 then F i else 1) else F k
theorem SI.congr {Bs : List (List Int)} {F G : Nat → Int} (h : SI c d ℓ li rl me mf Es D Rs L Bs F) (e : ∀ k, k < L.length → F k = G k) : SI c d ℓ li rl me mf Es D Rs L Bs G := by
  obtain ⟨h1, h2, h3, h4, h5, h6⟩ := h
  exact ⟨h1, h2, h3, h4, fun k hk => by rw [h5 k hk]; exact e k hk, h6⟩
theorem t14 {c0 : CS} {Bs : List (List Int)} {F : Nat → Int} {i : Nat} (h : SI c0 c ℓ li rl me mf Es D Rs L Bs F) (hB : Bs.length = L.length) (hi : i < L.length) (hf : ¬ Bs.getD i [] ∈ Bs.take i) (hQ : ∀ d, SI c0 d ℓ li rl me mf Es D Rs L Bs (fmk Bs i L.length F) → Q (Sum.inl none) d) : CW g B O 14 0 [some (.ref li), some (.int (iI i)), none, none, none] [] c Q := by
  have h24 : L.length ≤ 24 := by have := h.1.2.2.2.2.2.1; have := h.1.2.2.2.1.2.2.2.2.1; omega
  have loop : ∀ (m j : Nat) (d : CS) {l1 : Option Value}, L.length - j = m → i < j → j ≤ L.length → SI c0 d ℓ li rl me mf Es D Rs L Bs (fmk Bs i j F) → CW g B O 14 19 [some (.ref li), l1, some (.ref (Rs.getD i 0)), some (.int (iI ((Bs.take j).count (Bs.getD i []) : Nat))), some (.int (iI j))] [] d Q := by
    intro m
    induction m with
    | zero =>
      intro j d l1 q1 q2 q3 q4
      have c1 := q4.1.2.2.2.2.1
      have hc := List.count_le_length (a := Bs.getD i []) (l := Bs.take j)
      rw [List.length_take] at hc
      have : j = L.length := by omega
      exact c14_19 ⟨q4.1.2.2.2.1.1.1.1, fun _ => hQ d (by rw [← this]; exact q4), fun q => by omega⟩ (hx3 := by omega) (hx4 := by omega)
    | succ m ih =>
      intro j d l1 q1 q2 q3 q4
      have q4' := q4
      obtain ⟨⟨-, -, -, ⟨⟨z1, z2, z3, z4⟩, ⟨r1, r2, r3⟩, -, -, s1, s2, s3⟩, c1, c2, c3⟩, -, -, -, h5, h6⟩ := q4
      have hj : j < L.length := by omega
      have hc := List.count_le_length (a := Bs.getD i []) (l := Bs.take j)
      rw [List.length_take] at hc
      have ik := (s3 i (by omega)).1.1
      have jk := (s3 j (by omega)).1.1
      obtain ⟨bi, b1, b2⟩ := h6 i hi
      obtain ⟨bj, b3, b4⟩ := h6 j hj
      obtain ⟨bi', y1, y2, -⟩ := (s3 i (by omega)).2.2 5 (Or.inr (Or.inr (Or.inr (Or.inl rfl))))
      obtain ⟨bj', y3, y4, -⟩ := (s3 j (by omega)).2.2 5 (Or.inr (Or.inr (Or.inr (Or.inl rfl))))
      rw [b1] at y1
      rw [b3] at y3
      cases y1
      cases y3
      have hg : (yE d rl).getD ((j : Nat) : Int).toNat 0 = Rs.getD j 0 := by rw [r3, Int.toNat_natCast]
      have hcs := cnt_snoc (b := Bs.getD i []) (show j < Bs.length by omega)
      have hci : 1 ≤ (Bs.take j).count (Bs.getD i []) := by
        refine List.count_pos_iff.mpr ?_
        have : (Bs.take j).getD i [] = Bs.getD i [] := by rw [List.getD_eq_getElem?_getD, List.getD_eq_getElem?_getD, List.getElem?_take_of_lt q2]
        rw [← this]
        exact mem_gD (by rw [List.length_take]; omega)
      refine c14_19 ⟨z1.1, fun q => by omega, fun _ => ⟨z1.1, rl, z2, r1, by rw [r3]; omega, Rs.getD j 0, hg, jk, jk, bj, b3, ik, bi, b1, y4, y2, fun e => ⟨ik, fun d15 e15 => ⟨by omega, by rw [e15]; exact z1.1, rl, by rw [e15]; exact z2, by rw [e15]; exact r1, by rw [e15]; show _ ∧ _ < ((yE d rl).length : Int); rw [r3]; omega, Rs.getD j 0, by rw [e15]; exact hg, by rw [e15]; exact jk, by rw [e15]; exact jk, fun d25 e25 => ?_⟩⟩, fun e => ?_⟩⟩ (hx3 := by omega) (hx4 := by omega)
      · rw [b4, b2] at e
        rw [if_pos e] at hcs
        refine c14_77 ⟨by omega, ?_⟩ (hx3 := by omega) (hx4 := by omega)
        have hS := (q4'.set (x := 1) hi).set (k := j) (x := (((Bs.take j).count (Bs.getD i []) : Nat) : Int) + 1) hj
        rw [← e15, ← e25] at hS
        rw [show (((Bs.take j).count (Bs.getD i []) : Nat) : Int) + 1 = (((Bs.take (j + 1)).count (Bs.getD i []) : Nat) : Int) by rw [hcs]; omega] at hS ⊢
        refine ih (j + 1) d25 (by omega) (by omega) (by omega) (hS.congr (fun k hk => ?_))
        show (if k = j then _ else if k = i then (1 : Int) else fmk Bs i j F k) = fmk Bs i (j + 1) F k
        unfold fmk
        by_cases w1 : k = j
        · rw [if_pos w1, w1, if_pos ⟨e, q2, by omega⟩]
        · rw [if_neg w1]
          by_cases w2 : k = i
          · rw [if_pos w2, if_neg (fun q => by omega), if_pos w2, if_neg (by omega)]
          · rw [if_neg w2]
            by_cases w3 : Bs.getD k [] = Bs.getD i [] ∧ i < k ∧ k < j
            · rw [if_pos w3, if_pos ⟨w3.1, w3.2.1, by omega⟩]
            · rw [if_neg w3, if_neg w2, if_neg w2, if_neg (fun q => w3 ⟨q.1, q.2.1, by omega⟩)]
      · rw [b4, b2] at e
        rw [if_neg e] at hcs
        have hcs : (Bs.take (j + 1)).count (Bs.getD i []) = (Bs.take j).count (Bs.getD i []) := by omega
        refine c14_77 ⟨by omega, ?_⟩ (hx3 := by omega) (hx4 := by omega)
        rw [← hcs]
        refine ih (j + 1) d (by omega) (by omega) (by omega) (q4'.congr (fun k hk => ?_))
        unfold fmk
        rw [hcs]
        by_cases w3 : Bs.getD k [] = Bs.getD i [] ∧ i < k ∧ k < j
        · rw [if_pos w3, if_pos ⟨w3.1, w3.2.1, by omega⟩]
        · have w4 : ¬ (Bs.getD k [] = Bs.getD i [] ∧ i < k ∧ k < j + 1) := fun q => w3 ⟨q.1, q.2.1, by
            have := q.2.2
            by_cases w : k = j
            · rw [w] at q; exact absurd q.1 e
            · omega⟩
          rw [if_neg w3, if_neg w4]
  obtain ⟨⟨-, -, -, ⟨⟨z1, z2, z3, z4⟩, ⟨r1, r2, r3⟩, -, -, s1, s2, s3⟩, c1, c2, c3⟩, -⟩ := id h
  have c0' : (Bs.take i).count (Bs.getD i []) = 0 := List.count_eq_zero.mpr hf
  have hcs := cnt_snoc (b := Bs.getD i []) (show i < Bs.length by omega)
  rw [if_pos rfl, c0'] at hcs
  refine c14_0 ⟨z1.1, rl, z2, r1, by rw [r3]; omega, Rs.getD i 0, by rw [r3, Int.toNat_natCast], (s3 i (by omega)).1.1, by omega, ?_⟩ (hx1 := by omega)
  have := loop _ (i + 1) c (l1 := some (.int (iI i))) rfl (by omega) (by omega) (h.congr (fun k hk => ?_))
  · rw [hcs] at this
    exact this
  · unfold fmk
    rw [hcs, if_neg (fun q => by omega)]
    by_cases w : k = i
    · rw [if_pos w, if_pos (by omega), w]
    · rw [if_neg w]
def sfx (Bs : List (List Int)) (i k : Nat) : Int := if k < i ∨ Bs.getD k [] ∈ Bs.take i then (ltr Bs k : Nat) else 0
theorem mem_snoc {Bs : List (List Int)} {b : List Int} {i : Nat} (hi : i < Bs.length) : b ∈ Bs.take (i + 1) ↔ b ∈ Bs.take i ∨ b = Bs.getD i [] := by
  rw [take_snoc (d := []) hi, List.mem_append, List.mem_singleton]
theorem cnt_two {Bs : List (List Int)} {i k : Nat} (hk : k < Bs.length) (hi : Bs.getD k [] ∈ Bs.take i) (hik : i ≤ k) : ¬ Bs.count (Bs.getD k []) ≤ 1 := by
  have h1 := cnt_snoc (b := Bs.getD k []) hk
  rw [if_pos rfl] at h1
  have h2 : 0 < (Bs.take k).count (Bs.getD k []) := List.count_pos_iff.mpr ((List.take_sublist_take_left hik).subset hi)
  have h3 := (List.take_sublist (k + 1) Bs).count_le (Bs.getD k [])
  omega
theorem t13 {Bs : List (List Int)} (h : LC c ℓ li rl me mf Es D Rs L) (hB : Bs.length = L.length) (hT : ∀ k, k < L.length → TxJ c (Rs.getD k 0) 5 (Bs.getD k [])) (hQ : ∀ d, SI c d ℓ li rl me mf Es D Rs L Bs (fun k => (ltr Bs k : Nat)) → Q (Sum.inl none) d) : CW g B O 13 0 [some (.ref li), none] [] c Q := by
  have h24 : L.length ≤ 24 := by have := h.2.2.2.2.2.1; have := h.2.2.2.1.2.2.2.2.1; omega
  have main : ∀ (m i : Nat) (d : CS), L.length - i = m → i ≤ L.length → SI c d ℓ li rl me mf Es D Rs L Bs (sfx Bs i) → CW g B O 13 33 [some (.ref li), some (.int (iI i))] [] d Q := by
    intro m
    induction m with
    | zero =>
      intro i d q1 q2 q4
      have c1 := q4.1.2.2.2.2.1
      refine c13_33 ⟨q4.1.2.2.2.1.1.1.1, fun _ => hQ d (q4.congr (fun k hk => ?_)), fun q => by omega⟩ (hx1 := by omega)
      exact if_pos (Or.inl (by omega))
    | succ m ih =>
      intro i d q1 q2 q4
      have q4' := q4
      obtain ⟨⟨-, -, -, ⟨⟨z1, z2, z3, z4⟩, ⟨r1, r2, r3⟩, -, -, s1, s2, s3⟩, c1, c2, c3⟩, -, -, -, h5, h6⟩ := q4
      have hi : i < L.length := by omega
      have hiB : i < Bs.length := by omega
      have ik := (s3 i (by omega)).1.1
      obtain ⟨bi, b1, b2⟩ := h6 i hi
      obtain ⟨bi', y1, y2, -⟩ := (s3 i (by omega)).2.2 5 (Or.inr (Or.inr (Or.inr (Or.inl rfl))))
      rw [b1] at y1
      cases y1
      have hg : (yE d rl).getD ((i : Nat) : Int).toNat 0 = Rs.getD i 0 := by rw [r3, Int.toNat_natCast]
      have h5i := h5 i hi
      have next : ∀ d, SI c d ℓ li rl me mf Es D Rs L Bs (sfx Bs (i + 1)) → CW g B O 13 83 [some (.ref li), some (.int (iI i))] [] d Q := fun d hd => c13_83 ⟨by omega, ih (i + 1) d (by omega) (by omega) hd⟩ (hx1 := by omega)
      refine c13_33 ⟨z1.1, fun q => by omega, fun _ => ⟨z1.1, rl, z2, r1, by rw [r3]; omega, Rs.getD i 0, hg, ik, ik, fun e => ?_, fun e => ⟨z1.1, rl, z2, r1, by rw [r3]; omega, Rs.getD i 0, hg, ik, ik, bi, b1, y2, fun e2 => ?_, fun e2 => ⟨z1.1, ?_⟩⟩⟩⟩ (hx1 := by omega)
      · rw [h5i] at e
        have hin : Bs.getD i [] ∈ Bs.take i := by
          unfold sfx at e
          split at e
          · next z => exact z.resolve_left (Nat.lt_irrefl _)
          · exact absurd rfl e
        refine next d (q4'.congr (fun k hk => ?_))
        unfold sfx
        by_cases w : k < i ∨ Bs.getD k [] ∈ Bs.take i
        · rw [if_pos w, if_pos]
          rcases w with w | w
          · exact Or.inl (by omega)
          · exact Or.inr ((mem_snoc hiB).mpr (Or.inl w))
        · rw [if_neg w, if_neg]
          rintro (z | z)
          · by_cases v : k = i
            · exact w (Or.inr (by rw [v]; exact hin))
            · exact w (Or.inl (by omega))
          · rcases (mem_snoc hiB).mp z with z | z
            · exact w (Or.inr z)
            · exact w (Or.inr (by rw [z]; exact hin))
      · rw [b2] at e2
        refine next d (q4'.congr (fun k hk => ?_))
        unfold sfx
        have lz : Bs.getD k [] = [] → ltr Bs k = 0 := fun z => by unfold ltr; rw [if_pos z]
        by_cases w : k < i ∨ Bs.getD k [] ∈ Bs.take i
        · rw [if_pos w, if_pos]
          rcases w with w | w
          · exact Or.inl (by omega)
          · exact Or.inr ((mem_snoc hiB).mpr (Or.inl w))
        · rw [if_neg w]
          by_cases w2 : k < i + 1 ∨ Bs.getD k [] ∈ Bs.take (i + 1)
          · rw [if_pos w2]
            have : Bs.getD k [] = [] := by
              rcases w2 with z | z
              · have : k = i := by
                  by_cases v : k = i
                  · exact v
                  · exact absurd (Or.inl (by omega)) w
                rw [this]; exact e2
              · rcases (mem_snoc hiB).mp z with z | z
                · exact absurd (Or.inr z) w
                · rw [z]; exact e2
            rw [lz this]; rfl
          · rw [if_neg w2]
      · rw [b2] at e2
        rw [h5i] at e
        have hf : ¬ Bs.getD i [] ∈ Bs.take i := fun z => by
          unfold sfx at e
          rw [if_pos (Or.inr z)] at e
          have h2 := cnt_two hiB z (Nat.le_refl _)
          have h1 := cnt_snoc (b := Bs.getD i []) hiB
          rw [if_pos rfl] at h1
          unfold ltr at e
          rw [if_neg e2, if_neg h2] at e
          omega
        refine t14 q4' hB hi hf (fun d' hd' => next d' (hd'.congr (fun k hk => ?_)))
        have c0' : (Bs.take i).count (Bs.getD i []) = 0 := List.count_eq_zero.mpr hf
        have hcs := cnt_snoc (b := Bs.getD i []) hiB
        rw [if_pos rfl, c0'] at hcs
        have htk : Bs.take L.length = Bs := by rw [← hB]; exact List.take_length
        unfold fmk
        rw [htk]
        by_cases w : Bs.getD k [] = Bs.getD i [] ∧ i < k ∧ k < L.length
        · rw [if_pos w]
          have hin : Bs.getD k [] ∈ Bs.take (i + 1) := (mem_snoc hiB).mpr (Or.inr w.1)
          have h2 := cnt_two (show k < Bs.length by omega) hin (by omega)
          unfold sfx
          rw [if_pos (Or.inr hin)]
          unfold ltr
          rw [if_neg (by rw [w.1]; exact e2), if_neg h2, w.1]
        · rw [if_neg w]
          by_cases w2 : k = i
          · rw [if_pos w2, w2]
            have hs : sfx Bs (i + 1) i = (ltr Bs i : Nat) := if_pos (Or.inl (by omega))
            rw [hs]
            unfold ltr
            rw [if_neg e2]
            by_cases w3 : Bs.count (Bs.getD i []) ≤ 1
            · rw [if_pos w3, if_pos w3]; exact e
            · rw [if_neg w3, if_neg w3, hcs]; rfl
          · rw [if_neg w2]
            unfold sfx
            by_cases w4 : k < i ∨ Bs.getD k [] ∈ Bs.take i
            · rw [if_pos w4, if_pos]
              rcases w4 with w4 | w4
              · exact Or.inl (by omega)
              · exact Or.inr ((mem_snoc hiB).mpr (Or.inl w4))
            · rw [if_neg w4, if_neg]
              rintro (z | z)
              · exact w4 (Or.inl (by omega))
              · rcases (mem_snoc hiB).mp z with z | z
                · exact w4 (Or.inr z)
                · by_cases v : k < i
                  · exact w4 (Or.inl v)
                  · exact w ⟨z, by omega, hk⟩
  -- all letters away
  have zero : ∀ (m i : Nat) (d : CS) (F : Nat → Int), L.length - i = m → i ≤ L.length → SI c d ℓ li rl me mf Es D Rs L Bs F → (∀ k, k < i → F k = 0) → CW g B O 13 2 [some (.ref li), some (.int (iI i))] [] d Q := by
    intro m
    induction m with
    | zero =>
      intro i d F q1 q2 q4 q5
      have c1 := q4.1.2.2.2.2.1
      refine c13_2 ⟨q4.1.2.2.2.1.1.1.1, fun _ => main _ 0 d rfl (Nat.zero_le _) (q4.congr (fun k hk => ?_)), fun q => by omega⟩ (hx1 := by omega)
      rw [q5 k (by omega)]
      exact (if_neg (fun z => z.elim (fun y => Nat.not_lt_zero _ y) (fun y => by cases y))).symm
    | succ m ih =>
      intro i d F q1 q2 q4 q5
      have q4' := q4
      obtain ⟨⟨-, -, -, ⟨⟨z1, z2, z3, z4⟩, ⟨r1, r2, r3⟩, -, -, s1, s2, s3⟩, c1, c2, c3⟩, -, -, -, h5, h6⟩ := q4
      have hi : i < L.length := by omega
      have ik := (s3 i (by omega)).1.1
      refine c13_2 ⟨z1.1, fun q => by omega, fun _ => ⟨z1.1, rl, z2, r1, by rw [r3]; omega, Rs.getD i 0, by rw [r3, Int.toNat_natCast], ik, ik, fun d9 e9 => ⟨by omega, ?_⟩⟩⟩ (hx1 := by omega)
      have hS := q4'.set (x := 0) hi
      rw [← e9] at hS
      refine ih (i + 1) d9 _ (by omega) (by omega) hS (fun k hk => ?_)
      by_cases w : k = i
      · rw [if_pos w]
      · rw [if_neg w]; exact q5 k (by omega)
  exact c13_0 (zero _ 0 c (fun k => yI c (Rs.getD k 0) 6) rfl (Nat.zero_le _) ⟨h, FL.rfl, rfl, rfl, fun _ _ => rfl, hT⟩ (fun k hk => absurd hk (Nat.not_lt_zero _)))
end CList4
