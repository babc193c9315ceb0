/-! listing: begin, list -/
section CList2
variable {g : Nat → Nat} {B : Nat} {O : Nat → Prop} {c d : CS} {Q : Rs → CS → Prop} {ℓ ℓ' : LB} {Es Rs L : List Nat} {D : Db} {li rl me mf r n : Nat}
theorem gD_mem {L : List Nat} {n : Nat} (h : n ∈ L) : ∃ i, i < L.length ∧ L.getD i 0 = n := by
  obtain ⟨i, hi, e⟩ := List.getElem_of_mem h
  exact ⟨i, hi, by rw [List.getD_eq_getElem?_getD, List.getElem?_eq_getElem hi]; exact e⟩
theorem t8 (h : LC c ℓ li rl me mf Es D Rs L) (hQ : ∀ d, LC d ℓ li rl me mf Es D Rs [] → FL li ℓ ℓ c d → yU d = yU c → yI d li 2 = 1 → Q (Sum.inl none) d) : CW g B O 8 0 [some (.ref li)] [] c Q := by
  have hK := h.2.2.2.1.1.1.1
  obtain ⟨⟨l1, l2, l3, l4⟩, ⟨r1, r2, r3⟩, ⟨m1, m2, m3⟩, ⟨n1, n2, n3⟩, s1, s2, s3⟩ := h.2.2.2.1
  refine c8_0 ⟨hK, fun d1 e1 => ⟨by rw [e1]; exact hK, fun d3 e3 => ?_⟩⟩
  have F : FS (SL ℓ li) ℓ ℓ c d3 := ⟨fun a _ => ⟨by rw [e3, e1]; rfl, rfl⟩, fun a _ q => by rw [e3, e1]; exact (Kp_wI (fun s => q (Or.inl s))).trans (Kp_wI (fun s => q (Or.inl s)))⟩
  have nm : ¬ me = li := kne m1 hK (by decide)
  have nf : ¬ mf = li := kne n1 hK (by decide)
  refine hQ d3 (h.own F (L' := []) (f := id) ⟨List.nodup_nil, fun x hx => (by cases hx)⟩ (by rw [e3, e1]; exact ⟨l2, l3, l4⟩) (by rw [e3, e1]; exact r3) ⟨?_, ?_⟩ ?_ (Nat.zero_le _) rfl (fun i hi => ⟨hi, rfl⟩) (fun i j _ _ q => q) (fun i hi => absurd hi (Nat.not_lt_zero _))) F.fl (by rw [e3, e1]; rfl) ?_
  · rw [e3, e1, (Kp_wI nm).2.1, (Kp_wI nm).2.1]; exact m3
  · rw [e3, e1, (Kp_wI nf).2.1, (Kp_wI nf).2.1]; exact n3
  · rw [e3, yI_wI, if_pos ⟨rfl, rfl⟩]; rfl
  · rw [e3, yI_wI, if_neg (fun q => by have := q.2; omega), e1, yI_wI, if_pos ⟨rfl, rfl⟩]
/-- the last place is told -/
theorem t9_65 {l2 : Option Value} (h : LC c ℓ li rl me mf Es D Rs L) (hk : L.length < Rs.length) (hn : n < dN D) (hnL : ¬ n ∈ L) (hU : yU c + 13 ≤ B) (hQ : ∀ d ℓ', LC d ℓ' li rl me mf Es D Rs (L ++ [n]) → FL li ℓ ℓ' c d → yU d ≤ yU c → yI d li 2 = yI c li 2 → Q (Sum.inl none) d) : CW g B O 9 65 [some (.ref li), some (.ref (Es.getD n 0)), l2] [] c Q := by
  have h' := h
  obtain ⟨h1, h2, h3, ⟨⟨l1, l2', l3, l4⟩, ⟨r1, r2, r3⟩, ⟨m1, m2, m3⟩, ⟨n1, n2, n3⟩, s1, s2, s3⟩, c1, c2, c3⟩ := h
  have lk := l1.1
  have rk := (s3 _ hk).1
  refine c9_65 ⟨lk, rl, l2', lk, r1, by rw [r3, c1]; omega, Rs.getD L.length 0, by rw [r3, c1, Int.toNat_natCast], rk.1, rk.1, ?_⟩
  refine t39 h1 h2 hn (s3 _ hk) hU (fun d2 ℓ2 I2 V2 F2 U2 => ?_)
  have hLC := h'.row hk F2 I2 (fun q => absurd q (Nat.lt_irrefl _))
  have h24 : L.length < 24 := by omega
  have hc2 := hLC.2.2.2.2.1
  have lk2 := hLC.2.2.2.1.1.1.1
  have nli : Kp c d2 li := F2.2 li (by omega) (fun o => OR_SL l1 rk.2 rk.1 o (Or.inl rfl))
  refine c9_83 ⟨lk2, by omega, lk2, fun d3 e3 => ?_⟩
  have F3 : FS (SL ℓ2 li) ℓ2 ℓ2 d2 d3 := ⟨fun a _ => ⟨by rw [e3]; rfl, rfl⟩, fun a _ q => by rw [e3]; exact Kp_wI (fun s => q (Or.inl s))⟩
  have m1' := hLC.2.2.2.1.2.2.1.1
  have n1' := hLC.2.2.2.1.2.2.2.1.1
  refine hQ d3 ℓ2 (hLC.more F3 hk hn hnL V2 (by rw [e3]; rfl) (by rw [e3]; exact hLC.2.2.2.1.2.1.2.2) ⟨by rw [e3, (Kp_wI (kne m1' lk2 (by decide))).2.1], by rw [e3, (Kp_wI (kne n1' lk2 (by decide))).2.1]⟩ (by rw [e3, yI_wI, if_pos ⟨rfl, rfl⟩, hc2])) ((F2.fo rk.2 rk.1).trans F3.fl) (by rw [e3]; exact U2) ?_
  rw [e3, yI_wI, if_neg (fun q => by have := q.2; omega), nli.2.1]
theorem t9 (h : LC c ℓ li rl me mf Es D Rs L) (hn : n < dN D) (hU : yU c + 40300 ≤ B) (hQ : ∀ d ℓ' Rs', LC d ℓ' li rl me mf Es D Rs' (addN L n) → FL li ℓ ℓ' c d → Rs.length ≤ Rs'.length → yU d + 40200 * Rs.length ≤ yU c + 40200 * Rs'.length → yI d li 2 = yI c li 2 → Q (Sum.inl none) d) : CW g B O 9 0 [some (.ref li), some (.ref (Es.getD n 0)), none] [] c Q := by
  have h' := h
  obtain ⟨h1, h2, h3, ⟨⟨l1, l2', l3, l4⟩, ⟨r1, r2, r3⟩, ⟨m1, m2, m3⟩, ⟨n1, n2, n3⟩, s1, s2, s3⟩, c1, c2, c3⟩ := h
  have lk := l1.1
  have h24 : L.length ≤ 24 := by omega
  -- it is not there
  have fresh : ¬ n ∈ L → ∀ k : Nat, k = L.length → CW g B O 9 2 [some (.ref li), some (.ref (Es.getD n 0)), some (.int (iI k))] [] c Q := fun hnL k hk => by
    have hA : addN L n = L ++ [n] := if_neg hnL
    rw [hA] at hQ
    have hlen : (L ++ [n]).length = L.length + 1 := by rw [List.length_append]; rfl
    have hD24 : L.length + 1 ≤ 24 := by
      have h5 := (addN_DL h3 hn).len
      rw [hA, hlen] at h5
      have := h1.1
      omega
    subst hk
    refine c9_2 ⟨lk, fun _ => ⟨lk, lk, rl, l2', r1, fun q => ?_, fun q => ⟨lk, rl, l2', by omega, fun b hb d9 e9 => ?_⟩⟩, fun q => by omega⟩ (hx2 := by omega)
    · rw [r3, c1] at q
      refine t9_65 h' (by omega) hn hnL (by omega) (fun d ℓ' a1 a2 a3 a4 => hQ d ℓ' Rs a1 a2 (Nat.le_refl _) (by omega) a4)
    · rw [r3, c1] at q
      have hRL : Rs.length = L.length := by omega
      have nb : ∀ x, ¬ yK c x = 0 → ¬ x = b := fun x hx s => hx (by rw [s]; exact hb)
      have K9 : ∀ x, yK d9 x = if x = b then 6 else yK c x := fun x => by rw [e9]; rfl
      have F9 : FS (fun _ => False) ℓ (upL ℓ b (b, 0)) c d9 := ⟨fun x hx => ⟨by rw [K9, if_neg (nb x hx)], upL_ne (nb x hx)⟩, fun x hx _ => by rw [e9]; exact Kp_wN (nb x hx)⟩
      have U9 : yU d9 = yU c + 16 := by rw [e9]; rfl
      refine t38 (ℓ := upL ℓ b (b, 0)) (by rw [K9, if_pos rfl]) upL_eq (by omega) (fun d2 ℓ2 I2 F2 U2 => ?_)
      have F2' : FS (fun _ => False) ℓ ℓ2 c d2 := ⟨fun x hx => by
        obtain ⟨q1, q2⟩ := F9.1 x hx
        obtain ⟨q3, q4⟩ := F2.1 x (by rw [q1]; exact hx)
        exact ⟨q3.trans q1, q4.trans q2⟩, fun x hx s => (F9.2 x hx s).trans (F2.2 x (by rw [(F9.1 x hx).1]; exact hx) (nb x hx))⟩
      have kp : ∀ x, ¬ yK c x = 0 → Kp c d2 x := fun x hx => F2'.2 x hx id
      have krl := kp rl (by omega)
      have kli := kp li (by omega)
      have rl2 : yK d2 rl = 1 := by rw [krl.1]; exact r1
      have e2 : yE d2 rl = Rs := by rw [krl.2.2.2.2]; exact r3
      have LI2 := l1.fs F2'.1
      refine c9_61 ⟨rl2, by rw [I2.1.1]; omega, by rw [e2]; omega, fun d4 e4 => ?_⟩
      rw [e2] at e4
      have F4 : FS (SL ℓ2 li) ℓ2 ℓ2 d2 d4 := ⟨fun a _ => ⟨by rw [e4]; rfl, rfl⟩, fun a ha s => by
        rw [e4]
        refine (Kp_wE (fun z => s (Or.inr ?_))).trans Kp_wU
        rw [z, (F2'.1 rl (by omega)).2, r2]⟩
      have hg1 : ∀ i, i < Rs.length → (Rs ++ [b]).getD i 0 = Rs.getD i 0 := fun i hi => gA_lt hi
      have hg2 : (Rs ++ [b]).getD Rs.length 0 = b := by rw [gA_ge (Nat.le_refl _), Nat.sub_self]; rfl
      have hl2 : (Rs ++ [b]).length = Rs.length + 1 := by rw [List.length_append]; rfl
      have ro2 : ∀ i, i < Rs.length → RoI d2 ℓ2 (Rs.getD i 0) := fun i hi => (s3 i hi).keep (hlF F2') (fun a ha _ => kp a ha)
      have rv2 : ∀ i, i < L.length → RoV d2 ℓ2 Es D (Rs.getD i 0) (L.getD i 0) := fun i hi => (c3 i hi).keep (s3 i (by omega)) (hlF F2') (fun a ha _ _ => kp a ha) (kp _ (by have := (s3 i (by omega)).1.1; omega)).2.2.1 (fun a ha _ => kp a (by omega))
      have k4 : ∀ x, yK d4 x = yK d2 x := fun x => by rw [e4]; rfl
      have lb : ∀ x, ¬ yK c x = 0 → ℓ2 x = ℓ x := fun x hx => (F2'.1 x hx).2
      have kme := kp me (by omega)
      have kmf := kp mf (by omega)
      have hLC : LC d4 ℓ2 li rl me mf Es D (Rs ++ [b]) L := by
        refine ⟨h1, (h2.keep (fun a ha => lb a ha) (fun a ha _ => kp a ha)).sl LI2 F4, h3, ⟨⟨LI2.fs F4.1, ?_, ?_, ?_⟩, ⟨by rw [k4]; exact rl2, by rw [lb rl (by omega)]; exact r2, by rw [e4]; exact if_pos rfl⟩, ⟨by rw [k4, kme.1]; exact m1, by rw [lb me (by omega)]; exact m2, ?_⟩, ⟨by rw [k4, kmf.1]; exact n1, by rw [lb mf (by omega)]; exact n2, ?_⟩, by omega, fun i j q1 q2 e => ?_, fun i hi => ?_⟩, ?_, by omega, fun i hi => ?_⟩
        · rw [e4]; show yP d2 li 0 = _; rw [kli.2.2.1]; exact l2'
        · rw [e4]; show yP d2 li 3 = _; rw [kli.2.2.1]; exact l3
        · rw [e4]; show yP d2 li 4 = _; rw [kli.2.2.1]; exact l4
        · rw [e4]; show yI d2 me (-1) = _; rw [kme.2.1]; exact m3
        · rw [e4]; show yI d2 mf (-1) = _; rw [kmf.2.1]; exact n3
        · rw [hl2] at q1 q2
          have bne : ∀ i, i < Rs.length → ¬ Rs.getD i 0 = b := fun i hi => nb _ (by have := (s3 i hi).1.1; omega)
          by_cases z1 : i = Rs.length
          · by_cases z2 : j = Rs.length
            · omega
            · rw [z1, hg2, hg1 j (by omega)] at e
              exact absurd e.symm (bne j (by omega))
          · by_cases z2 : j = Rs.length
            · rw [z2, hg2, hg1 i (by omega)] at e
              exact absurd e (bne i (by omega))
            · rw [hg1 i (by omega), hg1 j (by omega)] at e
              exact s2 i j (by omega) (by omega) e
        · rw [hl2] at hi
          by_cases z : i = Rs.length
          · rw [z, hg2]; exact I2.sl LI2 F4
          · rw [hg1 i (by omega)]; exact (ro2 i (by omega)).sl LI2 F4
        · rw [e4]; show yI d2 li 1 = _; rw [kli.2.1]; exact c1
        · rw [hg1 i (by omega)]
          exact (rv2 i hi).sl (ro2 i (by omega)) LI2 F4
      have hFL : FL li ℓ ℓ2 c d4 := FL.trans (d := d2) (ℓ' := ℓ2) ⟨F2'.1, fun a ha _ => kp a ha⟩ F4.fl
      have U4 : yU d4 = yU d2 - 100 := by rw [e4]; rfl
      refine t9_65 hLC (by omega) hn hnL (by omega) (fun d ℓ' a1 a2 a3 a4 => hQ d ℓ' (Rs ++ [b]) a1 (hFL.trans a2) (by omega) (by omega) ?_)
      rw [a4, e4]
      show yI d2 li 2 = _
      rw [kli.2.1]
  -- the search
  have loop : ∀ (m k : Nat), L.length - k = m → k ≤ L.length → (∀ i, i < k → ¬ L.getD i 0 = n) → CW g B O 9 2 [some (.ref li), some (.ref (Es.getD n 0)), some (.int (iI k))] [] c Q := by
    intro m
    induction m with
    | zero =>
      intro k q1 q2 q3
      refine fresh (fun q => ?_) k (by omega)
      obtain ⟨i, hi, e⟩ := gD_mem q
      exact q3 i (by omega) e
    | succ m ih =>
      intro k q1 q2 q3
      have hk : k < L.length := by omega
      have rk := (s3 k (by omega)).1.1
      refine c9_2 ⟨lk, fun q => by omega, fun _ => ⟨lk, rl, l2', r1, by rw [r3]; omega, Rs.getD k 0, by rw [r3, Int.toNat_natCast], rk, rk, _, (c3 k hk).1, fun q => ⟨by omega, ?_⟩, fun q => ?_⟩⟩ (hx2 := by omega)
      · refine ih (k + 1) (by omega) (by omega) (fun i hi e => ?_)
        by_cases z : i = k
        · rw [z] at e; exact q (by rw [e])
        · exact q3 i (by omega) e
      · have hin : n ∈ L := by
          have := h2.inj (h3.2 _ (mem_gD hk)) hn q
          rw [← this]; exact mem_gD hk
        have hA : addN L n = L := if_pos hin
        rw [hA] at hQ
        exact hQ c ℓ Rs h' FL.rfl (Nat.le_refl _) (Nat.le_refl _) rfl
  exact c9_0 (loop _ 0 rfl (Nat.zero_le _) (fun i hi => absurd hi (Nat.not_lt_zero _)))
end CList2
