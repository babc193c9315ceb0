/-! listing: what is missing -/
theorem need_ned : ∀ K : Nat, K < 5 → ∀ f : Nat, f < 4 → (need (K * 4 + f)).toInt = if f < (ned K).length then ((ned K).getD f 0 : Int) else -1 := by decide
theorem ned_ok : ∀ K : Nat, K < 5 → (ned K).length ≤ 4 ∧ ∀ f : Nat, f < (ned K).length → (ned K).getD f 0 < 8 := by decide
section CList5
variable {g : Nat → Nat} {B : Nat} {O : Nat → Prop} {c d : CS} {Q : Rs → CS → Prop} {ℓ ℓ' : LB} {Es Rs L : List Nat} {D : Db} {li rl me mf r n : Nat}
/-- what is written down as missing -/
def LK (c : CS) (li me mf : Nat) (ls : List (Nat × Nat)) : Prop := yI c li 5 = ls.length ∧ ∀ i : Nat, i < ls.length → yI c me i = ((ls.getD i (0, 0)).1 : Nat) ∧ yI c mf i = ((ls.getD i (0, 0)).2 : Nat)
/-- the listing's own numbers change -/
theorem LC.ints (h : LC c ℓ li rl me mf Es D Rs L) (hF : FS (SL ℓ li) ℓ ℓ c d) (hP : yP d = yP c) (hE : yE d = yE c) (hm : yI d me (-1) = 96 ∧ yI d mf (-1) = 96) (hc : yI d li 1 = yI c li 1) : LC d ℓ li rl me mf Es D Rs L := by
  have hLs := h.2.2.2.1
  refine h.own hF (f := id) h.2.2.1 (by rw [hP]; exact hLs.1.2) (by rw [hE]; exact hLs.2.1.2.2) hm (by rw [hc]; exact h.2.2.2.2.1) (Nat.le_refl _) rfl (fun i hi => ⟨hi, rfl⟩) (fun i j _ _ e => e) (fun i hi => ⟨hi, rfl⟩)
theorem lck_snoc {D : Db} {e f : Nat} {l : List Nat} (hf : f < l.length) : (l.take (f + 1)).flatMap (wnt D e) = (l.take f).flatMap (wnt D e) ++ wnt D e (l.getD f 0) := by
  rw [take_snoc (d := 0) hf, List.flatMap_append]
  congr 1
  rw [List.flatMap_cons]
  exact List.append_nil _
theorem lck_snoc' {D : Db} {k : Nat} {l : List Nat} (hf : k < l.length) : (l.take (k + 1)).flatMap (lck D) = (l.take k).flatMap (lck D) ++ lck D (l.getD k 0) := by
  rw [take_snoc (d := 0) hf, List.flatMap_append]
  congr 1
  rw [List.flatMap_cons]
  exact List.append_nil _
theorem t15 (h : LC c ℓ li rl me mf Es D Rs L) (hQ : ∀ d, LC d ℓ li rl me mf Es D Rs L → FS (SL ℓ li) ℓ ℓ c d → yU d = yU c → yI d li 2 = yI c li 2 → LK d li me mf (lacksOf D L) → Q (Sum.inl none) d) : CW g B O 15 0 [some (.ref li), none, none, none, none] [] c Q := by
  have h24 : L.length ≤ 24 := by have := h.2.2.2.2.2.1; have := h.2.2.2.1.2.2.2.2.1; omega
  have hw1 : ∀ e f, (wnt D e f).length ≤ 1 := wnt_len D
  have rows : ∀ (m k : Nat) (d : CS) {l2 l3 l4 : Option Value}, L.length - k = m → k ≤ L.length → LC d ℓ li rl me mf Es D Rs L → FS (SL ℓ li) ℓ ℓ c d → yU d = yU c → yI d li 2 = yI c li 2 → LK d li me mf (lacksOf D (L.take k)) → CW g B O 15 7 [some (.ref li), some (.int (iI k)), l2, l3, l4] [] d Q := by
    intro m
    induction m with
    | zero =>
      intro k d l2 l3 l4 q1 q2 q3 q4 q5 q6 q7
      have c1 := q3.2.2.2.2.1
      have hk : k = L.length := by omega
      rw [hk, List.take_length] at q7
      exact c15_7 ⟨q3.2.2.2.1.1.1.1, fun _ => hQ d q3 q4 q5 q6 q7, fun q => by omega⟩ (hx1 := by omega)
    | succ m ih =>
      intro k d l2 l3 l4 q1 q2 q3 q4 q5 q6 q7
      have hk : k < L.length := by omega
      have hn : L.getD k 0 < dN D := q3.2.2.1.2 _ (mem_gD hk)
      have hD := q3.1
      have hK := hD.2.1 _ hn
      obtain ⟨K, hKe⟩ : ∃ K : Nat, dK D (L.getD k 0) = K := ⟨(dK D (L.getD k 0)).toNat, by omega⟩
      have hK5 : K < 5 := by omega
      have hno := ned_ok K hK5
      have hts : lacksOf D (L.take (k + 1)) = lacksOf D (L.take k) ++ lck D (L.getD k 0) := by
        unfold lacksOf
        exact lck_snoc' hk
      have hll := lacks_len D (L.take k)
      rw [List.length_take] at hll
      -- the fields of one row
      have flds : ∀ (m f : Nat) (d : CS) {l4 : Option Value}, 4 - f = m → f ≤ 4 → LC d ℓ li rl me mf Es D Rs L → FS (SL ℓ li) ℓ ℓ c d → yU d = yU c → yI d li 2 = yI c li 2 → LK d li me mf (lacksOf D (L.take k) ++ ((ned K).take f).flatMap (wnt D (L.getD k 0))) → CW g B O 15 32 [some (.ref li), some (.int (iI k)), some (.ref (Es.getD (L.getD k 0) 0)), some (.int (iI f)), l4] [] d Q := by
        intro m
        induction m with
        | zero =>
          intro f d l4 p1 p2 p3 p4 p5 p6 p7
          have hf : f = 4 := by omega
          refine c15_32 ⟨fun _ => ⟨by omega, ih (k + 1) d (by omega) (by omega) p3 p4 p5 p6 ?_⟩, fun q => by omega⟩ (hx1 := by omega) (hx3 := by omega)
          rw [hts]
          have : (ned K).take f = ned K := List.take_of_length_le (by omega)
          rw [this] at p7
          unfold lck
          rw [hKe]
          exact p7
        | succ m ih2 =>
          intro f d l4 p1 p2 p3 p4 p5 p6 p7
          have hf : f < 4 := by omega
          have p3' := p3
          obtain ⟨-, hE, -, ⟨⟨z1, z2, z3, z4⟩, ⟨r1, r2, r3⟩, ⟨m1, m2, m3⟩, ⟨n1, n2, n3⟩, s1, s2, s3⟩, c1, c2, c3⟩ := p3
          have hen := (hE.2 _ hn).1
          have hek : yI d (Es.getD (L.getD k 0) 0) 1 = K := by rw [hen.2.2.2.1, hKe]
          have hx : ((yI d (Es.getD (L.getD k 0) 0) 1) * 4 + (f : Int)).toNat = K * 4 + f := by rw [hek]; omega
          have hnd := need_ned K hK5 f hf
          have skip : ∀ {l4 : Option Value}, ((ned K).take (f + 1)).flatMap (wnt D (L.getD k 0)) = ((ned K).take f).flatMap (wnt D (L.getD k 0)) → CW g B O 15 108 [some (.ref li), some (.int (iI k)), some (.ref (Es.getD (L.getD k 0) 0)), some (.int (iI f)), l4] [] d Q := fun {l4} e => c15_108 ⟨by omega, ih2 (f + 1) d (by omega) (by omega) p3' p4 p5 p6 (by rw [e]; exact p7)⟩ (hx1 := by omega) (hx3 := by omega)
          refine c15_32 ⟨fun q => by omega, fun _ => ⟨hen.1, by rw [hek]; omega, by rw [hek]; omega, by rw [hek]; omega, ?_⟩⟩ (hx1 := by omega) (hx3 := by omega)
          rw [hx, hnd]
          by_cases w : f < (ned K).length
          · rw [if_pos w]
            refine ⟨fun q => by omega, fun _ => ⟨hen.1, ?_⟩⟩
            have hf8 := hno.2 f w
            have hsn := lck_snoc (D := D) (e := L.getD k 0) w
            refine t2 (f := (ned K).getD f 0) hD hE hn hf8 (fun e => c15_62 ⟨fun _ => skip ?_, fun q => by omega⟩ (hx1 := by omega) (hx3 := by omega) (hx4 := by omega)) (fun e => ?_)
            · rw [hsn]
              unfold wnt
              rw [if_neg e]
              exact List.append_nil _
            · have hwn : wnt D (L.getD k 0) ((ned K).getD f 0) = [(L.getD k 0, (ned K).getD f 0)] := if_pos e
              rw [hwn] at hsn
              have hpl : (((ned K).take f).flatMap (wnt D (L.getD k 0))).length ≤ f := by
                have : ∀ l : List Nat, (l.flatMap (wnt D (L.getD k 0))).length ≤ l.length := fun l => by
                  induction l with
                  | nil => exact Nat.le_refl _
                  | cons a l ihl =>
                    have := hw1 (L.getD k 0) a
                    rw [List.flatMap_cons, List.length_append]
                    show _ ≤ l.length + 1
                    omega
                have h5 := this ((ned K).take f)
                rw [List.length_take] at h5
                omega
              generalize hls : lacksOf D (L.take k) ++ ((ned K).take f).flatMap (wnt D (L.getD k 0)) = ls at p7
              have hlen : ls.length ≤ 95 := by rw [← hls, List.length_append]; omega
              obtain ⟨k1, k2⟩ := p7
              have nme : ¬ me = li := kne m1 z1.1 (by decide)
              have nmf : ¬ mf = li := kne n1 z1.1 (by decide)
              have nmm : ¬ me = mf := lne m2 n2 (by simp)
              refine c15_62 ⟨fun q => by omega, fun _ => ⟨z1.1, fun q => by omega, fun _ => ⟨z1.1, me, z3, z1.1, hen.1, m1, by rw [m3]; omega, fun d8 e8 => ?_⟩⟩⟩ (hx1 := by omega) (hx3 := by omega) (hx4 := by omega)
              rw [k1, hen.2.2.1] at e8
              have i8 : yI d8 li = yI d li := by rw [e8]; exact (Kp_wI (fun q => nme q.symm)).2.1
              have i8f : yI d8 mf = yI d mf := by rw [e8]; exact (Kp_wI (fun q => nmm q.symm)).2.1
              have K8 : yK d8 = yK d := by rw [e8]; rfl
              have P8 : yP d8 = yP d := by rw [e8]; rfl
              refine ⟨by rw [K8]; exact z1.1, mf, by rw [P8]; exact z4, by rw [K8]; exact z1.1, by rw [K8]; exact n1, by rw [i8, i8f, k1, n3]; omega, fun d14 e14 => ?_⟩
              rw [i8, k1] at e14
              have i14 : yI d14 li = yI d li := by rw [e14, (Kp_wI (fun q => nmf q.symm)).2.1, i8]
              have K14 : yK d14 = yK d := by rw [e14]; exact K8
              have P14 : yP d14 = yP d := by rw [e14]; exact P8
              have E14 : yE d14 = yE d := by rw [e14, e8]; rfl
              have U14 : yU d14 = yU d := by rw [e14, e8]; rfl
              refine ⟨by rw [K14]; exact z1.1, by rw [i14, k1]; omega, by rw [K14]; exact z1.1, fun d17 e17 => ?_⟩
              rw [i14, k1] at e17
              have im : ∀ i : Int, yI d17 me i = if i = ls.length then ((L.getD k 0 : Nat) : Int) else yI d me i := fun i => by
                rw [e17, (Kp_wI nme).2.1, e14, (Kp_wI nmm).2.1, e8, yI_wI]
                by_cases q : i = ls.length
                · rw [if_pos ⟨rfl, q⟩, if_pos q]
                · rw [if_neg (fun s => q s.2), if_neg q]
              have iF : ∀ i : Int, yI d17 mf i = if i = ls.length then (((ned K).getD f 0 : Nat) : Int) else yI d mf i := fun i => by
                rw [e17, (Kp_wI nmf).2.1, e14, yI_wI]
                by_cases q : i = ls.length
                · rw [if_pos ⟨rfl, q⟩, if_pos q]
                · rw [if_neg (fun s => q s.2), if_neg q, i8f]
              have il : ∀ i : Int, ¬ i = 5 → yI d17 li i = yI d li i := fun i hi => by rw [e17, yI_wI, if_neg (fun s => hi s.2), i14]
              have i5 : yI d17 li 5 = ls.length + 1 := by rw [e17, yI_wI, if_pos ⟨rfl, rfl⟩]
              have F17 : FS (SL ℓ li) ℓ ℓ d d17 := ⟨fun x _ => ⟨by rw [e17]; show yK d14 x = _; rw [K14], rfl⟩, fun x _ s => by
                have h1 : ¬ x = me := fun q => s (Or.inr (by rw [q, m2]))
                have h2 : ¬ x = mf := fun q => s (Or.inr (by rw [q, n2]))
                have h3 : ¬ x = li := fun q => s (Or.inl q)
                rw [e17, e14, e8]
                exact ((Kp_wI h1).trans (Kp_wI h2)).trans (Kp_wI h3)⟩
              have LC17 := p3'.ints F17 (by rw [e17]; exact P14) (by rw [e17]; exact E14) ⟨by rw [im, if_neg (by omega)]; exact m3, by rw [iF, if_neg (by omega)]; exact n3⟩ (il 1 (by decide))
              refine c15_108 ⟨by omega, ih2 (f + 1) d17 (by omega) (by omega) LC17 (p4.trans F17) (by rw [e17]; show yU d14 = _; rw [U14]; exact p5) (by rw [il 2 (by decide)]; exact p6) ?_⟩ (hx1 := by omega) (hx3 := by omega)
              rw [hsn, ← List.append_assoc, hls]
              have hl1 : (ls ++ [(L.getD k 0, (ned K).getD f 0)]).length = ls.length + 1 := by rw [List.length_append]; rfl
              refine ⟨by rw [i5, hl1]; omega, fun i hi => ?_⟩
              rw [hl1] at hi
              rw [im, iF]
              by_cases v : i = ls.length
              · rw [if_pos (by omega), if_pos (by omega), v, gA_ge (Nat.le_refl _), Nat.sub_self]
                exact ⟨rfl, rfl⟩
              · rw [if_neg (by omega), if_neg (by omega), gA_lt (by omega)]
                exact k2 i (by omega)
          · rw [if_neg w]
            refine ⟨fun _ => skip ?_, fun q => by omega⟩
            rw [List.take_of_length_le (by omega), List.take_of_length_le (by omega)]
      have q3' := q3
      obtain ⟨-, hE, -, ⟨⟨z1, z2, z3, z4⟩, ⟨r1, r2, r3⟩, ⟨m1, m2, m3⟩, ⟨n1, n2, n3⟩, s1, s2, s3⟩, c1, c2, c3⟩ := q3
      have rk := (s3 k (by omega)).1.1
      refine c15_7 ⟨z1.1, fun q => by omega, fun _ => ⟨z1.1, rl, z2, r1, by rw [r3]; omega, Rs.getD k 0, by rw [r3, Int.toNat_natCast], rk, rk, _, (c3 k hk).1, ?_⟩⟩ (hx1 := by omega)
      refine flds _ 0 d rfl (by omega) q3' q4 q5 q6 ?_
      show LK d li me mf (lacksOf D (L.take k) ++ [])
      rw [List.append_nil]
      exact q7
  have hLs := h.2.2.2.1
  obtain ⟨⟨z1, z2, z3, z4⟩, ⟨r1, r2, r3⟩, ⟨m1, m2, m3⟩, ⟨n1, n2, n3⟩, s1, s2, s3⟩ := hLs
  refine c15_0 ⟨z1.1, fun d1 e1 => ?_⟩
  have F1 : FS (SL ℓ li) ℓ ℓ c d1 := ⟨fun x _ => ⟨by rw [e1]; rfl, rfl⟩, fun x _ s => by rw [e1]; exact Kp_wI (fun q => s (Or.inl q))⟩
  have il : ∀ i : Int, ¬ i = 5 → yI d1 li i = yI c li i := fun i hi => by rw [e1, yI_wI, if_neg (fun s => hi s.2)]
  refine rows _ 0 d1 rfl (Nat.zero_le _) (h.ints F1 (by rw [e1]; rfl) (by rw [e1]; rfl) ⟨?_, ?_⟩ (il 1 (by decide))) F1 (by rw [e1]; rfl) (il 2 (by decide)) ⟨?_, fun i hi => absurd hi (Nat.not_lt_zero _)⟩
  · rw [e1, (Kp_wI (kne m1 z1.1 (by decide))).2.1]; exact m3
  · rw [e1, (Kp_wI (kne n1 z1.1 (by decide))).2.1]; exact n3
  · rw [e1, yI_wI, if_pos ⟨rfl, rfl⟩]; rfl
end CList5
