/-! listing: in the order of a sort -/
section CList3
variable {g : Nat → Nat} {B : Nat} {O : Nat → Prop} {c d : CS} {Q : Rs → CS → Prop} {ℓ ℓ' : LB} {Es Rs L : List Nat} {D : Db} {li rl me mf r n : Nat}
/-- a text of a row is written -/
theorem FS_out {r a j : Nat} {l : List Int} (ha : ℓ a = (r, j)) : FS (OR ℓ r) ℓ ℓ c (wT c a l) := ⟨fun _ _ => ⟨rfl, rfl⟩, fun x _ q => Kp_wT (fun e => q (Or.inl (by rw [e, ha])))⟩
theorem LC.out (h : LC c ℓ li rl me mf Es D Rs L) {k a j : Nat} {l : List Int} (hk : k < L.length) (ha : ℓ a = (Rs.getD k 0, j)) (hj : j = 2 ∨ j = 5 ∨ j = 7) : LC (wT c a l) ℓ li rl me mf Es D Rs L := by
  have hr := (h.rc hk).out (l := l) ha hj
  have := h.2.2.2.2.2.1
  exact h.row (by omega) (FS_out ha) hr.2.2.2.1 (fun _ => hr.2.2.2.2)
/-- the text in place j of row r -/
def TxJ (c : CS) (r j : Nat) (t : List Int) : Prop := ∃ a, yP c r j = some a ∧ yT c a = t
theorem LsI.slot (h : LsI c ℓ li rl me mf Rs) {i j : Nat} (hi : i < Rs.length) (hj : jT j) : ∃ a, yP c (Rs.getD i 0) j = some a ∧ yK c a = 7 ∧ ℓ a = (Rs.getD i 0, j) := (h.2.2.2.2.2.2 i hi).2.2 j hj
/-- writing one row's text leaves the others' -/
theorem TxJ.out (h : LsI c ℓ li rl me mf Rs) {i k j j' a : Nat} {t l : List Int} (hi : i < Rs.length) (hk : k < Rs.length) (hj : jT j) (hn : ¬ (i = k ∧ j = j')) (ha : ℓ a = (Rs.getD k 0, j')) (hT : TxJ c (Rs.getD i 0) j t) : TxJ (wT c a l) (Rs.getD i 0) j t := by
  obtain ⟨b, b1, b2⟩ := hT
  obtain ⟨b', q1, q2, q3⟩ := h.slot hi hj
  rw [b1] at q1
  cases q1
  refine ⟨b, b1, ?_⟩
  rw [yT_wT_ne (fun e => ?_)]
  · exact b2
  · rw [e, ha] at q3
    have e1 : Rs.getD k 0 = Rs.getD i 0 := congrArg Prod.fst q3
    have e2 : j' = j := congrArg Prod.snd q3
    exact hn ⟨h.2.2.2.2.2.1 i k hi hk e1.symm, e2.symm⟩
/-- the place that goes to k when row i goes to a -/
def pij (a i k : Nat) : Nat := if k < a then k else if k = a then i else if k ≤ i then k - 1 else k
theorem pij_inj {a i k k' : Nat} (ha : a ≤ i) (h : pij a i k = pij a i k') : k = k' := by
  unfold pij at h
  (repeat' split at h) <;> omega
theorem pij_lt {a i k n : Nat} (ha : a ≤ i) (hi : i < n) (hk : k < n) : pij a i k < n := by
  unfold pij
  (repeat' split) <;> omega
theorem setN_getD {Z : List Nat} {a x k : Nat} (ha : a < Z.length) : (Z.set a x).getD k 0 = if k = a then x else Z.getD k 0 := by
  rw [List.getD_eq_getElem?_getD, List.getD_eq_getElem?_getD, List.getElem?_set]
  by_cases q : a = k
  · rw [if_pos q, if_pos (by omega), if_pos q.symm]; rfl
  · rw [if_neg q, if_neg (fun e => q e.symm)]
/-- what is sorted so far -/
def sof (gt : Nat → Nat → Bool) (L : List Nat) (i : Nat) : List Nat := srt gt (L.take i) ++ L.drop i
theorem sof_len {gt : Nat → Nat → Bool} {L : List Nat} {i : Nat} (hi : i ≤ L.length) : (srt gt (L.take i)).length = i ∧ (sof gt L i).length = L.length := by
  have h1 : (srt gt (L.take i)).length = i := by rw [srt_len, List.length_take]; omega
  refine ⟨h1, ?_⟩
  unfold sof
  rw [List.length_append, h1, List.length_drop]
  omega
theorem sof_DL {gt : Nat → Nat → Bool} {L : List Nat} {i n : Nat} (h : DL n L) : DL n (sof gt L i) := by
  have hp : List.Perm (sof gt L i) L := by
    have := (srt_perm gt (L.take i)).append_right (L.drop i)
    rw [List.take_append_drop] at this
    exact this
  exact ⟨hp.nodup_iff.mpr h.1, fun x hx => h.2 x (hp.mem_iff.mp hx)⟩
theorem sof_ge {gt : Nat → Nat → Bool} {L : List Nat} {i k : Nat} (hi : i ≤ L.length) (hk : i ≤ k) : (sof gt L i).getD k 0 = L.getD k 0 := by
  unfold sof
  rw [gA_ge (by rw [(sof_len (gt := gt) hi).1]; exact hk), (sof_len (gt := gt) hi).1, List.getD_eq_getElem?_getD, List.getD_eq_getElem?_getD, List.getElem?_drop, show i + (k - i) = k by omega]
theorem sof_lt {gt : Nat → Nat → Bool} {L : List Nat} {i k : Nat} (hi : i ≤ L.length) (hk : k < i) : (sof gt L i).getD k 0 = (srt gt (L.take i)).getD k 0 := by
  unfold sof
  rw [gA_lt (by rw [(sof_len (gt := gt) hi).1]; exact hk)]
theorem sof_step {gt : Nat → Nat → Bool} {L : List Nat} {i a : Nat} (hi : i < L.length) (ha : inp gt (srt gt (L.take i)) (L.getD i 0) i = a) : ∀ k, (sof gt L (i + 1)).getD k 0 = (sof gt L i).getD (pij a i k) 0 := by
  intro k
  have hl := (sof_len (gt := gt) (L := L) (i := i) (by omega)).1
  have hai : a ≤ i := by rw [← ha]; exact inp_le _
  by_cases q : k < i + 1
  · rw [sof_lt (by omega) q, take_snoc (d := 0) hi, srt_snoc]
    refine (gap_ins (gt := gt) (P := srt gt (L.take i)) (e := L.getD i 0) (a := a) (f := fun k => (sof gt L i).getD (pij a i k) 0) ⟨fun j hj => ?_, fun j h1 h2 => ?_⟩ (by rw [hl]; exact ha) ?_ k (by rw [hl]; exact q)).symm
    · show (sof gt L i).getD (pij a i j) 0 = _
      rw [show pij a i j = j from if_pos hj, sof_lt (by omega) (by omega)]
    · show (sof gt L i).getD (pij a i (j + 1)) 0 = _
      rw [hl] at h2
      have : pij a i (j + 1) = j := by unfold pij; rw [if_neg (by omega), if_neg (by omega), if_pos (by omega)]; omega
      rw [this, sof_lt (by omega) h2]
    · show (sof gt L i).getD (pij a i a) 0 = _
      have : pij a i a = i := by unfold pij; rw [if_neg (by omega), if_pos rfl]
      rw [this, sof_ge (by omega) (Nat.le_refl _)]
  · have : pij a i k = k := by unfold pij; rw [if_neg (by omega), if_neg (by omega), if_neg (by omega)]
    rw [this, sof_ge (by omega) (by omega), sof_ge (by omega) (by omega)]
theorem t10 {s : Int} (h : LC c ℓ li rl me mf Es D Rs L) (hs : 0 ≤ s ∧ s ≤ 2) (ho : ¬ s = 0 → ∀ x y, x ∈ L → y ∈ L → (0 < cmpL (odT D s x) (odT D s y) ↔ 0 < ord D s x y)) (hQ : ∀ d Rs', LC d ℓ li rl me mf Es D Rs' (if s = 0 then L else srt (fun a b => decide (0 < ord D s a b)) L) → Rs'.length = Rs.length → FL li ℓ ℓ c d → yU d = yU c → yI d li 2 = yI c li 2 → Q (Sum.inl none) d) : CW g B O 10 0 [some (.ref li), some (.int (iI s)), none, none, none] [] c Q := by
  refine c10_0 ⟨fun q => ?_, fun q => hQ c Rs (by rw [if_pos q]; exact h) rfl FL.rfl rfl rfl⟩
  rw [if_neg q] at hQ
  have ho := ho q
  have hl24 : L.length ≤ 24 := by have := h.2.2.2.2.2.1; have := h.2.2.2.1.2.2.2.2.1; omega
  generalize hgt : (fun a b => decide (0 < ord D s a b)) = gt at hQ
  have hgt' : ∀ a b, gt a b = decide (0 < ord D s a b) := fun a b => by rw [← hgt]
  have loop : ∀ (m i : Nat) (d : CS) (Z : List Nat) {l3 l4 : Option Value}, L.length - i = m → i ≤ L.length → LC d ℓ li rl me mf Es D Z (sof gt L i) → Z.length = Rs.length → FL li ℓ ℓ c d → yU d = yU c → yI d li 2 = yI c li 2 → (∀ k, k < i → TxJ d (Z.getD k 0) 2 (odT D s ((sof gt L i).getD k 0))) → CW g B O 10 7 [some (.ref li), some (.int (iI s)), some (.int (iI i)), l3, l4] [] d Q := by
    intro m
    induction m with
    | zero =>
      intro i d Z l3 l4 n1 n2 n3 n4 n5 n6 n7 n8
      have hi : i = L.length := by omega
      have hc := n3.2.2.2.2.1
      rw [(sof_len n2).2] at hc
      have : sof gt L i = srt gt L := by
        unfold sof
        rw [hi, List.take_length, List.drop_eq_nil_of_le (Nat.le_refl _), List.append_nil]
      rw [this] at n3
      exact c10_7 ⟨n3.2.2.2.1.1.1.1, fun _ => hQ d Z n3 n4 n5 n6 n7, fun q => by omega⟩ (hx2 := by omega)
    | succ m ih =>
      intro i d Z l3 l4 n1 n2 n3 n4 n5 n6 n7 n8
      have hi : i < L.length := by omega
      have hsl := sof_len (gt := gt) n2
      have n3' := n3
      obtain ⟨h1, h2, h3, hLs, c1, c2, c3⟩ := n3
      have hLs' := hLs
      obtain ⟨⟨l1, l2, l3', l4'⟩, ⟨r1, r2, r3⟩, ⟨m1, m2, m3⟩, ⟨p1, p2, p3⟩, s1, s2, s3⟩ := hLs
      rw [hsl.2] at c1 c2
      have hiZ : i < Z.length := by omega
      have rk := (s3 i hiZ).1
      obtain ⟨a, a1, a2, a3⟩ := hLs'.slot (j := 2) hiZ (Or.inl rfl)
      have rc := n3'.rc (i := i) (by omega)
      have he : (sof gt L i).getD i 0 = L.getD i 0 := sof_ge n2 (Nat.le_refl _)
      refine c10_7 ⟨l1.1, fun q => by omega, fun _ => ⟨l1.1, rl, l2, r1, by rw [r3]; omega, Z.getD i 0, by rw [r3, Int.toNat_natCast], rk.1, rk.1, t40 rc hs a1 a2 a3 ?_⟩⟩ (hx2 := by omega)
      rw [he]
      -- the order's text is written; now e goes down
      have LC2 := n3'.out (l := odT D s (L.getD i 0)) (by omega) a3 (Or.inl rfl)
      have T2 : ∀ k, k < i → TxJ (wT d a (odT D s (L.getD i 0))) (Z.getD k 0) 2 (odT D s ((srt gt (L.take i)).getD k 0)) := fun k hk => by
        have := TxJ.out (l := odT D s (L.getD i 0)) hLs' (i := k) (k := i) (j := 2) (by omega) hiZ (Or.inl rfl) (by omega) a3 (n8 k hk)
        rw [sof_lt n2 hk] at this
        exact this
      have Ti : yT (wT d a (odT D s (L.getD i 0))) a = odT D s (L.getD i 0) := yT_wT _ _ _
      generalize hd2 : wT d a (odT D s (L.getD i 0)) = d2 at LC2 T2 Ti
      have P2 : yP d2 = yP d := by rw [← hd2]; rfl
      have K2 : yK d2 = yK d := by rw [← hd2]; rfl
      have I2 : yI d2 = yI d := by rw [← hd2]; rfl
      have E2 : yE d2 = yE d := by rw [← hd2]; rfl
      have U2 : yU d2 = yU d := by rw [← hd2]; rfl
      have FL2 : FL li ℓ ℓ d d2 := by rw [← hd2]; exact (FS_out a3).fo rk.2 rk.1
      have lk2 : yK d2 li = 3 := by rw [K2]; exact l1.1
      have hsl2 := (sof_len (gt := gt) (L := L) (i := i + 1) (by omega)).2
      -- the end of the way down
      have put : ∀ (b : Nat) (Y : List Nat), b ≤ i → inp gt (srt gt (L.take i)) (L.getD i 0) i = b → Y.length = Z.length → (∀ k, k < b → Y.getD k 0 = Z.getD k 0) → (∀ k, b ≤ k → k < i → Y.getD (k + 1) 0 = Z.getD k 0) → (∀ k, i < k → Y.getD k 0 = Z.getD k 0) → CW g B O 10 97 [some (.ref li), some (.int (iI s)), some (.int (iI i)), some (.ref (Z.getD i 0)), some (.int (iI b))] [] (wE d2 rl Y) Q := fun b Y b1 b2 y0 y1 y2 y3 => by
        have ey : yE (wE d2 rl Y) rl = Y := if_pos rfl
        refine c10_97 ⟨lk2, rl, by show yP d2 li 0 = _; rw [P2]; exact l2, by show yK d2 rl = 1; rw [K2]; exact r1, by rw [ey]; omega, by show 1 ≤ yK d2 _ ∧ yK d2 _ ≤ 9; rw [K2, rk.1]; omega, fun d8 e8 _ => ⟨by omega, ?_⟩⟩ (hx4 := by omega) (hx2 := by omega)
        rw [ey, Int.toNat_natCast] at e8
        have e8' : d8 = wE d2 rl (Y.set b (Z.getD i 0)) := by
          rw [e8]
          have : (fun z => if z = rl then Y.set b (Z.getD i 0) else (if z = rl then Y else yE d2 z)) = (fun z => if z = rl then Y.set b (Z.getD i 0) else yE d2 z) := funext fun z => by
            by_cases q : z = rl
            · rw [if_pos q, if_pos q]
            · rw [if_neg q, if_neg q, if_neg q]
          show (yU d2, yK d2, yI d2, yP d2, yT d2, (fun z => if z = rl then Y.set b (Z.getD i 0) else (if z = rl then Y else yE d2 z))) = _
          rw [this]
          rfl
        clear e8
        subst e8'
        have hY : ∀ k, k < Z.length → (Y.set b (Z.getD i 0)).getD k 0 = Z.getD (pij b i k) 0 := fun k hk => by
          rw [setN_getD (by omega)]
          unfold pij
          by_cases z1 : k = b
          · rw [if_pos z1, if_neg (by omega), if_pos z1]
          · rw [if_neg z1]
            by_cases z2 : k < b
            · rw [if_pos z2]; exact y1 k z2
            · rw [if_neg z2, if_neg z1]
              by_cases z3 : k ≤ i
              · rw [if_pos z3]
                have := y2 (k - 1) (by omega) (by omega)
                rw [show k - 1 + 1 = k by omega] at this
                exact this
              · rw [if_neg z3]; exact y3 k (by omega)
        have hst := sof_step (gt := gt) hi b2
        have F3 : FS (SL ℓ li) ℓ ℓ d2 (wE d2 rl (Y.set b (Z.getD i 0))) := ⟨fun _ _ => ⟨rfl, rfl⟩, fun x _ q => Kp_wE (fun z => q (Or.inr (by rw [z, r2])))⟩
        have hYl : (Y.set b (Z.getD i 0)).length = Z.length := by rw [List.length_set]; exact y0
        refine ih (i + 1) _ (Y.set b (Z.getD i 0)) (by omega) (by omega) (LC2.own F3 (f := pij b i) (sof_DL ?_) ⟨?_, ?_, ?_⟩ (if_pos rfl) ⟨?_, ?_⟩ ?_ ?_ hYl (fun k hk => ⟨pij_lt b1 hiZ hk, hY k hk⟩) (fun k k' _ _ e => pij_inj b1 e) (fun k hk => ⟨?_, hst k⟩)) (by omega) (n5.trans (FL2.trans F3.fl)) ?_ ?_ (fun k hk => ?_)
        · exact h.2.2.1
        · show yP d2 li 0 = _; rw [P2]; exact l2
        · show yP d2 li 3 = _; rw [P2]; exact l3'
        · show yP d2 li 4 = _; rw [P2]; exact l4'
        · show yI d2 me (-1) = _; rw [I2]; exact m3
        · show yI d2 mf (-1) = _; rw [I2]; exact p3
        · show yI d2 li 1 = _; rw [I2, c1, hsl2]
        · rw [hsl2, hsl.2]; exact Nat.le_refl _
        · rw [hsl2] at hk; rw [hsl.2]; exact pij_lt b1 hi hk
        · show yU d2 = _; rw [U2]; exact n6
        · show yI d2 li 2 = _; rw [I2]; exact n7
        · rw [hY k (by omega), hst k]
          have hp : pij b i k = i ∨ pij b i k < i := by unfold pij; (repeat' split) <;> omega
          rcases hp with e | e
          · rw [e, he]
            exact ⟨a, by show yP d2 _ _ = _; rw [P2]; exact a1, Ti⟩
          · rw [sof_lt n2 e]
            exact T2 _ e
      have down : ∀ (b : Nat) (Y : List Nat), b ≤ i → inp gt (srt gt (L.take i)) (L.getD i 0) i = inp gt (srt gt (L.take i)) (L.getD i 0) b → Y.length = Z.length → (∀ k, k < b → Y.getD k 0 = Z.getD k 0) → (∀ k, b ≤ k → k < i → Y.getD (k + 1) 0 = Z.getD k 0) → (∀ k, i < k → Y.getD k 0 = Z.getD k 0) → CW g B O 10 35 [some (.ref li), some (.int (iI s)), some (.int (iI i)), some (.ref (Z.getD i 0)), some (.int (iI b))] [] (wE d2 rl Y) Q := by
        intro b
        induction b with
        | zero =>
          intro Y b1 b2 y0 y1 y2 y3
          exact c10_35 ⟨fun _ => put 0 Y b1 b2 y0 y1 y2 y3, fun q => by omega⟩ (hx4 := by omega) (hx2 := by omega)
        | succ b ihb =>
          intro Y b1 b2 y0 y1 y2 y3
          have ey : yE (wE d2 rl Y) rl = Y := if_pos rfl
          have hb : b < Z.length := by omega
          have bk := (s3 b hb).1.1
          obtain ⟨t, t1, t2⟩ := T2 b (by omega)
          obtain ⟨t', q1, q2, q3⟩ := hLs'.slot (j := 2) hb (Or.inl rfl)
          rw [P2, q1] at t1
          cases t1
          have hmb : (srt gt (L.take i)).getD b 0 ∈ L := by
            rw [← sof_lt n2 (by omega)]
            have hm : (sof gt L i).getD b 0 ∈ sof gt L i := mem_gD (by omega)
            have hp : List.Perm (sof gt L i) L := by
              have := (srt_perm gt (L.take i)).append_right (L.drop i)
              rw [List.take_append_drop] at this
              exact this
            exact hp.mem_iff.mp hm
          have hiff := ho _ (L.getD i 0) hmb (mem_gD hi)
          have inpS : inp gt (srt gt (L.take i)) (L.getD i 0) (b + 1) = if gt ((srt gt (L.take i)).getD b 0) (L.getD i 0) = true then inp gt (srt gt (L.take i)) (L.getD i 0) b else b + 1 := rfl
          have lkY : yK (wE d2 rl Y) li = 3 := lk2
          have rlY : yK (wE d2 rl Y) rl = 1 := by show yK d2 rl = 1; rw [K2]; exact r1
          have plY : yP (wE d2 rl Y) li 0 = some rl := by show yP d2 li 0 = _; rw [P2]; exact l2
          have toN : ((((b + 1 : Nat) : Int)) - 1).toNat = b := by omega
          have gY : (yE (wE d2 rl Y) rl).getD ((((b + 1 : Nat) : Int)) - 1).toNat 0 = Z.getD b 0 := by rw [ey, toN]; exact y1 b (by omega)
          have bkY : yK (wE d2 rl Y) (Z.getD b 0) = 6 := by show yK d2 _ = 6; rw [K2]; exact bk
          have rng : (0 : Int) ≤ ((b + 1 : Nat) : Int) - 1 ∧ ((b + 1 : Nat) : Int) - 1 < (yE (wE d2 rl Y) rl).length := by rw [ey]; omega
          have Tb : yT (wE d2 rl Y) t = odT D s ((srt gt (L.take i)).getD b 0) := t2
          have Ta : yT (wE d2 rl Y) a = odT D s (L.getD i 0) := Ti
          refine c10_35 ⟨fun q => by omega, fun _ => ⟨lkY, rl, plY, by omega, rlY, rng, Z.getD b 0, gY, bkY, bkY, t, by show yP d2 _ 2 = _; rw [P2]; exact q1, by show yK d2 _ = 6; rw [K2]; exact rk.1, a, by show yP d2 _ 2 = _; rw [P2]; exact a1, by show yK d2 _ = 7; rw [K2]; exact q2, by show yK d2 _ = 7; rw [K2]; exact a2, fun z => ?_, fun z => ⟨lkY, rl, plY, lkY, rl, plY, by omega, rlY, rng, Z.getD b 0, gY, bkY, rlY, by rw [ey]; omega, by rw [bkY]; omega, fun d30 e30 _ => ⟨by omega, ?_⟩⟩⟩⟩ (hx4 := by omega) (hx2 := by omega)
          · rw [Tb, Ta] at z
            refine put (b + 1) Y b1 ?_ y0 y1 y2 y3
            rw [b2, inpS, hgt', if_neg (fun w => by have w := decide_eq_true_iff.mp w; have := hiff.mpr w; omega)]
          · rw [Tb, Ta] at z
            rw [ey, Int.toNat_natCast] at e30
            have e30' : d30 = wE d2 rl (Y.set (b + 1) (Z.getD b 0)) := by
              rw [e30]
              have : (fun z => if z = rl then Y.set (b + 1) (Z.getD b 0) else (if z = rl then Y else yE d2 z)) = (fun z => if z = rl then Y.set (b + 1) (Z.getD b 0) else yE d2 z) := funext fun z => by
                by_cases q : z = rl
                · rw [if_pos q, if_pos q]
                · rw [if_neg q, if_neg q, if_neg q]
              show (yU d2, yK d2, yI d2, yP d2, yT d2, (fun z => if z = rl then Y.set (b + 1) (Z.getD b 0) else (if z = rl then Y else yE d2 z))) = _
              rw [this]
              rfl
            clear e30
            subst e30'
            rw [show (((b + 1 : Nat) : Int)) + (-1) = (b : Nat) by omega]
            refine ihb (Y.set (b + 1) (Z.getD b 0)) (by omega) ?_ (by rw [List.length_set]; exact y0) (fun k hk => ?_) (fun k k1 k2 => ?_) (fun k hk => ?_)
            · rw [b2, inpS, hgt', if_pos (decide_eq_true_iff.mpr (hiff.mp z))]
            · rw [setN_getD (by omega), if_neg (by omega)]; exact y1 k (by omega)
            · rw [setN_getD (by omega)]
              by_cases w : k = b
              · rw [if_pos (by omega), w]
              · rw [if_neg (by omega)]; exact y2 k (by omega) k2
            · rw [setN_getD (by omega), if_neg (by omega)]; exact y3 k hk
      have eE : wE d2 rl Z = d2 := by
        have : (fun z => if z = rl then Z else yE d2 z) = yE d2 := funext fun z => by
          by_cases q : z = rl
          · rw [if_pos q, q, E2, r3]
          · rw [if_neg q]
        show (yU d2, yK d2, yI d2, yP d2, yT d2, (fun z => if z = rl then Z else yE d2 z)) = _
        rw [this]
        rfl
      have go := down i Z (Nat.le_refl _) rfl rfl (fun _ _ => rfl) (fun k k1 k2 => by omega) (fun _ _ => rfl)
      rw [eE] at go
      exact c10_32 go (hx2 := by omega)
  have h0 : sof gt L 0 = L := rfl
  exact loop _ 0 c Rs rfl (Nat.zero_le _) (by rw [h0]; exact h) rfl FL.rfl rfl rfl (fun k hk => absurd hk (Nat.not_lt_zero _))
end CList3
