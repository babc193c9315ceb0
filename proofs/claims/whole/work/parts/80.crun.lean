/-! run -/
section CRun
variable {g : Nat → Nat} {B U : Nat} {O : Nat → Prop} {c d : CS} {Q : Rs → CS → Prop} {ℓ ℓ' : LB} {Es Rs L : List Nat} {D : Db} {s : ST} {x li rl me mf : Nat} {A : Nat → Nat}
theorem t8' (hD : DOK D) (hE : EI c ℓ Es D) (hI : LsI c ℓ li rl me mf Rs) (hQ : ∀ d, LC d ℓ li rl me mf Es D Rs [] → FL li ℓ ℓ c d → yU d = yU c → yI d li 2 = 1 → Q (Sum.inl none) d) : CW g B O 8 0 [some (.ref li)] [] c Q := by
  have hK := hI.1.1.1
  obtain ⟨⟨l1, l2, l3, l4⟩, ⟨r1, r2, r3⟩, ⟨m1, m2, m3⟩, ⟨n1, n2, n3⟩, s1, s2, s3⟩ := hI
  refine c8_0 ⟨hK, fun d1 e1 => ⟨by rw [e1]; exact hK, fun d3 e3 => ?_⟩⟩
  have F : FS (SL ℓ li) ℓ ℓ c d3 := ⟨fun a _ => ⟨by rw [e3, e1]; rfl, rfl⟩, fun a _ q => by rw [e3, e1]; exact (Kp_wI (fun s => q (Or.inl s))).trans (Kp_wI (fun s => q (Or.inl s)))⟩
  have nm : ¬ me = li := kne m1 hK (by decide)
  have nf : ¬ mf = li := kne n1 hK (by decide)
  have K3 : yK d3 = yK c := by rw [e3, e1]; rfl
  refine hQ d3 ⟨hD, hE.sl l1 F, ⟨List.nodup_nil, fun x hx => (by cases hx)⟩, ⟨⟨l1.fs F.1, by rw [e3, e1]; exact ⟨l2, l3, l4⟩⟩, ⟨by rw [K3]; exact r1, r2, by rw [e3, e1]; exact r3⟩, ⟨by rw [K3]; exact m1, m2, ?_⟩, ⟨by rw [K3]; exact n1, n2, ?_⟩, s1, s2, fun i hi => (s3 i hi).sl l1 F⟩, ?_, Nat.zero_le _, fun i hi => absurd hi (Nat.not_lt_zero _)⟩ F.fl (by rw [e3, e1]; rfl) ?_
  · rw [e3, e1, (Kp_wI nm).2.1, (Kp_wI nm).2.1]; exact m3
  · rw [e3, e1, (Kp_wI nf).2.1, (Kp_wI nf).2.1]; exact n3
  · rw [e3, yI_wI, if_pos ⟨rfl, rfl⟩]; rfl
  · rw [e3, yI_wI, if_neg (fun q => by have := q.2; omega), e1, yI_wI, if_pos ⟨rfl, rfl⟩]
theorem t83' {n el : Nat} (hd : dN D ≤ 24) (hE : EI c ℓ Es D) (a1 : yK c x = 8) (b0 : yP c x 0 = some el) (c1 : yK c el = 1) (h4 : yE c el = Es) (hn : n < dN D) (hQ : Q (Sum.inl (some (.ref (Es.getD (real D n) 0)))) c) : CW g B O 83 0 [some (.ref x), some (.ref (Es.getD n 0)), none] [] c Q := by
  have hl := hE.1
  obtain ⟨⟨e1, -, e3, -⟩, ⟨ky, k1, k2, -, k4⟩, -⟩ := hE.2 n hn
  have loop : ∀ (m k : Nat), k + m = n → real D n = rls D n m k → CW g B O 83 14 [some (.ref x), some (.ref (Es.getD n 0)), some (.int (iI k))] [] c Q := by
    intro m
    induction m with
    | zero =>
      intro k q1 q2
      have q2 : real D n = n := q2
      rw [q2] at hQ
      exact c83_14 ⟨e1, fun _ => c83_75 hQ, fun q => by omega⟩ (hx2 := by omega)
    | succ m ih =>
      intro k q1 q2
      have hk : k < dN D := by omega
      obtain ⟨⟨f1, -⟩, ⟨ky', l1, l2, -, l4⟩, -⟩ := hE.2 k hk
      have hg : (yE c el).getD ((k : Nat) : Int).toNat 0 = Es.getD k 0 := by rw [h4, Int.toNat_natCast]
      have q2 : real D n = if dY D k = dY D n then k else rls D n m (k + 1) := q2
      refine c83_14 ⟨e1, fun q => by omega, fun _ => ⟨a1, el, b0, c1, fun q => by rw [h4] at q; omega, fun _ => ⟨a1, el, b0, c1, by rw [h4]; omega, Es.getD k 0, hg, f1, f1, ky', l1, e1, ky, k1, l2, k2, fun q => ⟨a1, el, b0, c1, by rw [h4]; omega, Es.getD k 0, hg, f1, ?_⟩, fun q => ⟨by omega, ih (k + 1) (by omega) ?_⟩⟩⟩⟩ (hx2 := by omega)
      · rw [l4, k4] at q
        rw [if_pos q] at q2
        rw [q2] at hQ
        exact hQ
      · rw [l4, k4] at q
        rw [if_neg q] at q2
        exact q2
  refine c83_0 ⟨e1, ky, k1, k2, fun q => ?_, fun q => loop n 0 (by omega) ?_⟩
  · rw [k4] at q
    have : real D n = n := if_pos q
    rw [this] at hQ
    exact hQ
  · rw [k4] at q
    exact if_neg q
theorem k73 (h : XI U c ℓ x A Es Rs s) (hB : U + 2000000 ≤ B) (hQ : ∀ d, XE U d x A (x6 s).2.2 → Q (Sum.inl (some (.int (iI (x6 s).2.1)))) d) : CW g B O 73 0 [some (.ref x), none] [] c Q := by
  obtain ⟨u1, u2, u3, u4⟩ := h.u hB
  have hS := SK6 h.1
  obtain ⟨hS0, hE, ⟨hA, hLs, hR, h4, ⟨Ci, i1, i2, i3, i4⟩, h6, h7⟩, hU⟩ := id h
  obtain ⟨⟨a1, a2⟩, ⟨b0, b1, b4, b5, b6, b7⟩, ⟨c1, c2⟩, ⟨d1, d2⟩, e1, ⟨f1, f2⟩, ⟨g1, g2⟩, j1, j2⟩ := id hA
  have hD := hS0.1
  have hN := hS0.2.2.1
  have hs := hS0.2.2.2.1
  have hlb := hS0.2.2.2.2.1
  have lk := hLs.1.1.1
  -- what stays
  have gx : ∀ a j, ℓ a = (x, j) → ¬ a = A 2 → GL c ℓ (A 2) a := fun a j ha hn => by
    refine ⟨?_, ?_, ?_, ?_⟩
    · rintro (v | v)
      · exact hn v
      · rw [ha] at v
        exact kne a1 lk (by decide) v
    · rw [ha]; show ¬ yK c x = 0; omega
    · rw [ha]; show ¬ yK c (ℓ x).1 = 0; rw [a2]; show ¬ yK c x = 0; omega
    · rw [ha]; show ¬ yK c (ℓ x).1 = 6; rw [a2]; show ¬ yK c x = 6; omega
  have kX : ∀ {d : CS} {ℓ' : LB}, FL (A 2) ℓ ℓ' c d → Kp c d x ∧ Kp c d (A 0) ∧ Kp c d (A 1) ∧ Kp c d (A 6) := fun F => ⟨F.2 x (by omega) (gx x 0 a2 (kne a1 lk (by decide))), F.2 _ (by omega) (gx _ _ c2 (kne c1 lk (by decide))), F.2 _ (by omega) (gx _ _ d2 (kne d1 lk (by decide))), F.2 _ (by omega) (gx _ _ f2 (kne f1 lk (by decide)))⟩
  have hps : ∀ {d : CS} {ℓ' : LB}, FL (A 2) ℓ ℓ' c d → PsI d ℓ' (A 7) := fun F => g1.keep (fun a ha => ⟨(F.1 a ha).2, (F.1 a ha).1⟩) (fun a ha q => F.2 a ha (by
    have g0 := g1.1
    rcases q with q | q
    · rw [q]; exact gx _ _ g2 (kne g0 lk (by decide))
    · refine ⟨?_, ?_, ?_, ?_⟩
      · rintro (v | v)
        · rw [v, e1] at q
          exact kne a1 g0 (by decide) q
        · exact kne g0 lk (by decide) (q.symm.trans v)
      · rw [q]; omega
      · rw [q, g2]; show ¬ yK c x = 0; omega
      · rw [q, g2]; show ¬ yK c x = 6; omega))
  -- the end, from the letters on
  have hL24 : ∀ {d : CS} {ℓ' : LB} {R L : List Nat}, LC d ℓ' (A 2) (A 3) (A 4) (A 5) Es (qD s) R L → L.length ≤ 24 := fun hc => by have := hc.2.2.2.2.2.1; have := hc.2.2.2.1.2.2.2.2.1; omega
  generalize hLr : rowsOf (qD s) (qS s) (qF s) = Lr at hS
  have hx6 : x6 s = ((0 : Int), (Lr.length : Int), wRun s) := by unfold x6; rw [hLr]
  have hrun : qR (wRun s) = (Lr, lettersOf (qD s) (qL s) Lr, textsOf (qD s) (qL s) Lr, lacksOf (qD s) Lr, true) := by show runO s = _; unfold runO; rw [hLr]
  have hBl : (basesOf (qD s) (qL s) Lr).length = Lr.length := List.length_map _
  -- the texts
  have texts : ∀ (m k : Nat) (d : CS) (ℓ' : LB) (R : List Nat), Lr.length - k = m → k ≤ Lr.length → LC d ℓ' (A 2) (A 3) (A 4) (A 5) Es (qD s) R Lr → FL (A 2) ℓ ℓ' c d → yU d + 40200 * Rs.length ≤ yU c + 40200 * R.length → yI d (A 2) 2 = 1 → (∀ i, i < Lr.length → yI d (R.getD i 0) 6 = (ltr (basesOf (qD s) (qL s) Lr) i : Nat)) → (∀ i, i < Lr.length → TxJ d (R.getD i 0) 5 ((basesOf (qD s) (qL s) Lr).getD i [])) → (∀ i, i < k → TxJ d (R.getD i 0) 7 ((textsOf (qD s) (qL s) Lr).getD i [])) → CW g B O 73 79 [some (.ref x), some (.int (iI k))] [] d Q := by
    intro m
    induction m with
    | zero =>
      intro k d ℓ' R m1 m2 hc F Uh hb sf tb tt
      have hk : k = Lr.length := by omega
      obtain ⟨kx, k0, k1, k6⟩ := kX F
      have l24 := hL24 hc
      have lk' := hc.2.2.2.1.1.1.1
      have xk : yK d x = 8 := by rw [kx.1]; exact a1
      have p4 : yP d x 4 = some (A 2) := by rw [kx.2.2.1]; exact b4
      refine c73_79 ⟨xk, A 2, p4, lk', t6 (L := Lr) lk' hc.2.2.2.2.1 l24 ?_⟩ (hx1 := by omega)
      refine c73_87 ⟨fun _ => ⟨xk, A 2, p4, lk', t15 hc (fun d' hc' F' U' b' K' => ?_)⟩, fun q => by omega⟩ (hx1 := by omega)
      have F2 := F.trans F'.fl
      obtain ⟨kx2, k02, k12, k62⟩ := kX F2
      have lk2 := hc'.2.2.2.1.1.1.1
      refine c73_119 ⟨by rw [kx2.1]; exact a1, A 2, by rw [kx2.2.2.1]; exact b4, lk2, t6 (L := Lr) lk2 hc'.2.2.2.2.1 l24 (c73_126 ?_ (hu0 := by omega))⟩
      have hl2 : ∀ a, ¬ yK c a = 0 → ℓ' a = ℓ a ∧ yK d' a = yK c a := fun a ha => ⟨(F2.1 a ha).2, (F2.1 a ha).1⟩
      have fin : XE U d' x A (wRun s) := by
        refine ⟨ℓ', Es, R, ?_, hc'.2.1, ⟨hA.keep hl2 (by omega) kx2.2.2.1 (hps F2), hc'.2.2.2.1, ?_, by rw [k02.2.2.2.2]; exact h4, ⟨Ci, by rw [k12.2.2.2.2]; exact i1, i2, i3, i4⟩, by rw [kx2.2.1]; exact h6, by rw [k62.2.2.2.1]; exact h7⟩, ?_⟩
        · rw [hx6] at hS; exact hS
        · rw [hrun]
          refine ⟨hc'.2.2.2.2.1, hc'.2.2.2.2.2.1, fun i hi => ?_, K', by rw [b', hb]; rfl⟩
          have hi : i < Lr.length := hi
          have hLs' := hc.2.2.2.1
          have hlR := hc.2.2.2.2.2.1
          have ri := hLs'.2.2.2.2.2.2 i (by omega)
          have rk := ri.1.1
          have kr := F'.2 (R.getD i 0) (by omega) (OR_SL hLs'.1.1 ri.1.2 ri.1.1 (Or.inl (by rw [ri.1.2])))
          obtain ⟨t, q1, q2⟩ := tt i (by omega)
          obtain ⟨t', y1, y2, y3⟩ := ri.2.2 7 (Or.inr (Or.inr (Or.inr (Or.inr rfl))))
          rw [q1] at y1
          cases y1
          have kt := F'.2 t (by omega) (OR_SL hLs'.1.1 ri.1.2 ri.1.1 (Or.inl (by rw [y3])))
          refine ⟨(hc'.2.2.2.2.2.2 i hi).1, ?_, ?_, t, by rw [kr.2.2.1]; exact q1, by rw [kt.2.2.2.1]; exact q2⟩
          · rw [u2]; exact hc'.2.2.1.2 _ (mem_gD hi)
          · rw [kr.2.1, sf i hi]
            show _ = ((((List.range Lr.length).map (ltr (basesOf (qD s) (qL s) Lr))).getD i 0 : Nat) : Int)
            rw [List.getD_eq_getElem?_getD, List.getElem?_map, List.getElem?_range hi]
            rfl
        · omega
      have := hQ d' (by rw [hx6]; exact fin)
      rw [hx6] at this
      exact this
    | succ m ih =>
      intro k d ℓ' R m1 m2 hc F Uh hb sf tb tt
      have hk : k < Lr.length := by omega
      obtain ⟨kx, k0, k1, k6⟩ := kX F
      have l24 := hL24 hc
      have lk' := hc.2.2.2.1.1.1.1
      have xk : yK d x = 8 := by rw [kx.1]; exact a1
      have p4 : yP d x 4 = some (A 2) := by rw [kx.2.2.1]; exact b4
      have hlR := hc.2.2.2.2.2.1
      have hLs' := hc.2.2.2.1
      have ri := hLs'.2.2.2.2.2.2 k (by omega)
      obtain ⟨a, y1, y2, y3⟩ := hLs'.slot (i := k) (j := 7) (by omega) (Or.inr (Or.inr (Or.inr (Or.inr rfl))))
      obtain ⟨b, w1, w2, w3⟩ := hLs'.slot (i := k) (j := 5) (by omega) (Or.inr (Or.inr (Or.inr (Or.inl rfl))))
      obtain ⟨b', w4, w5⟩ := tb k hk
      rw [w1] at w4
      cases w4
      have hbg := bases_get (D := qD s) (lb := qL s) hk
      have hbl := base_len hD (qL s) Lr (Lr.getD k 0)
      rw [← hbg] at hbl
      have hlt := ltr_le (basesOf (qD s) (qL s) Lr) k
      refine c73_79 ⟨xk, A 2, p4, lk', t6 (L := Lr) lk' hc.2.2.2.2.1 l24 ?_⟩ (hx1 := by omega)
      refine c73_87 ⟨fun q => by omega, fun _ => ⟨xk, A 2, p4, lk', t7 hLs' (by omega) ?_⟩⟩ (hx1 := by omega)
      refine c73_98 ⟨xk, ri.1.1, ?_⟩ (hx1 := by omega)
      rw [kx.2.1, h6.2]
      refine t46 (l := ltr (basesOf (qD s) (qL s) Lr) k) (bs := (basesOf (qD s) (qL s) Lr).getD k []) (hc.rc hk) y1 y2 y3 w1 w2 w3 w5 hlb (fun z => ?_) (by omega) (by omega) (sf k hk) (by omega) ?_
      · have : (basesOf (qD s) (qL s) Lr).getD k [] = [] := by
          rw [hbg]
          unfold base
          rw [if_neg (by omega), if_neg (by omega)]
        exact ⟨this, if_pos this⟩
      · refine c73_106 ⟨by omega, ?_⟩ (hx1 := by omega)
        refine ih (k + 1) _ ℓ' R (by omega) (by omega) (hc.out hk y3 (Or.inr (Or.inr rfl))) (F.trans ((FS_out y3).fo ri.1.2 ri.1.1)) Uh hb sf (fun i hi => ?_) (fun i hi => ?_)
        · exact TxJ.out hLs' (by omega) (k := k) (j' := 7) (by omega) (Or.inr (Or.inr (Or.inr (Or.inl rfl)))) (by omega) y3 (tb i hi)
        · by_cases v : i = k
          · rw [v]
            refine ⟨a, y1, ?_⟩
            rw [yT_wT]
            show _ = ((List.range Lr.length).map (fun k => txt (qD s) (qL s) k ((basesOf (qD s) (qL s) Lr).getD k []) (ltr (basesOf (qD s) (qL s) Lr) k) (Lr.getD k 0))).getD k []
            rw [List.getD_eq_getElem?_getD (l := (List.range Lr.length).map _), List.getElem?_map, List.getElem?_range hk]
            rfl
          · exact TxJ.out hLs' (by omega) (k := k) (j' := 7) (by omega) (Or.inr (Or.inr (Or.inr (Or.inr rfl)))) (by omega) y3 (tt i (by omega))
  -- what was cited
  have cites : ∀ (m k : Nat) (d : CS) (ℓ' : LB) (R : List Nat), Ci.length - k = m → k ≤ Ci.length → LC d ℓ' (A 2) (A 3) (A 4) (A 5) Es (qD s) R (lst1 (qD s) (Ci.take k)) → FL (A 2) ℓ ℓ' c d → yU d + 40200 * Rs.length ≤ yU c + 40200 * R.length → yI d (A 2) 2 = 1 → CW g B O 73 9 [some (.ref x), some (.int (iI k))] [] d Q := by
    intro m
    induction m with
    | zero =>
      intro k d ℓ' R m1 m2 hc F Uh hb
      have hk : k = Ci.length := by omega
      obtain ⟨kx, k0, k1, k6⟩ := kX F
      have lk' := hc.2.2.2.1.1.1.1
      have xk : yK d x = 8 := by rw [kx.1]; exact a1
      have p4 : yP d x 4 = some (A 2) := by rw [kx.2.2.1]; exact b4
      have hel : (yE d (A 1)).length = Ci.length := by rw [k1.2.2.2.2, i1, List.length_map]
      rw [hk, List.take_length, lst1_fst, i3] at hc
      refine c73_9 ⟨xk, A 1, by rw [kx.2.2.1]; exact b1, by rw [k1.1]; exact d1, fun _ => ⟨xk, A 2, p4, xk, lk', ?_⟩, fun q => by omega⟩ (hx1 := by omega)
      rw [kx.2.1, h6.1]
      refine t10 hc hs (fun z y w _ _ => ord_tie hD hs z y w) (fun d2 R2 hc2 hR2 F2 U2 b2 => ?_)
      have hc2 : LC d2 ℓ' (A 2) (A 3) (A 4) (A 5) Es (qD s) R2 Lr := by rw [← hLr]; exact hc2
      have G2 := F.trans F2
      obtain ⟨kx2, -⟩ := kX G2
      have lk2 := hc2.2.2.2.1.1.1.1
      refine c73_59 ⟨by rw [kx2.1]; exact a1, A 2, by rw [kx2.2.2.1]; exact b4, by rw [kx2.1]; exact a1, lk2, ?_⟩
      rw [kx2.2.1, h6.2]
      refine t11 hc2 hlb (fun d3 hc3 F3 U3 I3 T3 => ?_)
      have G3 := G2.trans F3
      obtain ⟨kx3, -⟩ := kX G3
      refine c73_70 ⟨by rw [kx3.1]; exact a1, A 2, by rw [kx3.2.2.1]; exact b4, hc3.2.2.2.1.1.1.1, t13 (Bs := basesOf (qD s) (qL s) Lr) hc3 hBl (fun i hi => by rw [bases_get hi]; exact T3 i hi) (fun d4 S4 => c73_77 ?_)⟩
      obtain ⟨hc4, F4, U4, b4', s4, t4⟩ := S4
      refine texts _ 0 d4 ℓ' R2 rfl (Nat.zero_le _) hc4 (G3.trans F4) (by omega) (by rw [b4', I3, b2]; exact hb) s4 t4 (fun i hi => absurd hi (Nat.not_lt_zero _))
    | succ m ih =>
      intro k d ℓ' R m1 m2 hc F Uh hb
      have hk : k < Ci.length := by omega
      obtain ⟨kx, k0, k1, k6⟩ := kX F
      have lk' := hc.2.2.2.1.1.1.1
      have xk : yK d x = 8 := by rw [kx.1]; exact a1
      have p4 : yP d x 4 = some (A 2) := by rw [kx.2.2.1]; exact b4
      have p1 : yP d x 1 = some (A 1) := by rw [kx.2.2.1]; exact b1
      have kc : yK d (A 1) = 1 := by rw [k1.1]; exact d1
      have hec : yE d (A 1) = Ci.map (fun n => Es.getD n 0) := by rw [k1.2.2.2.2]; exact i1
      have hel : (yE d (A 1)).length = Ci.length := by rw [hec, List.length_map]
      have hn : Ci.getD k 0 < dN (qD s) := by rw [← u2]; exact i4 _ (mem_gD hk)
      have hrl := real_le (qD s) (Ci.getD k 0)
      have hE' := hc.2.1
      have hge : (yE d (A 1)).getD ((k : Nat) : Int).toNat 0 = Es.getD (Ci.getD k 0) 0 := by
        rw [hec, Int.toNat_natCast, List.getD_eq_getElem?_getD, List.getElem?_map, List.getElem?_eq_getElem hk, List.getD_eq_getElem?_getD (l := Ci), List.getElem?_eq_getElem hk]
        rfl
      have hR24 := hc.2.2.2.1.2.2.2.2.1
      refine c73_9 ⟨xk, A 1, p1, kc, fun q => by omega, fun _ => ⟨xk, A 2, p4, xk, A 1, p1, kc, by omega, _, hge, (hE'.2 _ hn).1.1, xk, t83' u3 hE' xk (by rw [kx.2.2.1]; exact b0) (by rw [k0.1]; exact c1) (by rw [k0.2.2.2.2]; exact h4) hn ?_⟩⟩ (hx1 := by omega)
      refine c73_39 ⟨lk', t9 hc (by omega) (by omega) (fun d2 ℓ2 R2 hc2 F2 l2 U2 b2 => ?_)⟩ (hx1 := by omega)
      refine c73_42 ⟨by omega, ih (k + 1) d2 ℓ2 R2 (by omega) (by omega) ?_ (F.trans F2) (by omega) (by rw [b2]; exact hb)⟩ (hx1 := by omega)
      rw [take_snoc (d := 0) hk, lst1_snoc]
      exact hc2
  refine c73_0 ⟨a1, A 2, b4, lk, t8' hD hE hLs (fun d hc F Uh hb => c73_7 (cites _ 0 d ℓ Rs rfl (Nat.zero_le _) hc F (by omega) hb))⟩
end CRun
