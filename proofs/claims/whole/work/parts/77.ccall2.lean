/-! print, initials -/
section CCall2
variable {g : Nat → Nat} {B U : Nat} {O : Nat → Prop} {c d : CS} {Q : Rs → CS → Prop} {ℓ ℓ' : LB} {Es Rs : List Nat} {s : ST} {x : Nat} {A : Nat → Nat}
theorem XI.sx (h : XI U c ℓ x A Es Rs s) (hF : FS (SX ℓ x (A 2)) ℓ ℓ' c d) (hP : yP d x = yP c x) (hI : yI d x = yI c x) (hp : PsI d ℓ' (A 7)) (h0 : yE d (A 0) = yE c (A 0)) (h1 : yE d (A 1) = yE c (A 1)) {s' : ST} (hS : SK s') (h6 : yT d (A 6) = qO s') (e : s' = wOut s (qO s')) (hU : yU d ≤ yU c) : XI U d ℓ' x A Es Rs s' := by
  obtain ⟨-, hE, ⟨hA, hLs, hR, i4, ⟨Ci, i5⟩, i6, i7⟩, hu⟩ := h
  have a1 := hA.1.1
  have kS := SX_k a1 hLs.1.1 hF
  have q1 : qD s' = qD s := by rw [e]; rfl
  have q2 : qR s' = qR s := by rw [e]; rfl
  have q3 : qN s' = qN s := by rw [e]; rfl
  have q4 : qF s' = qF s := by rw [e]; rfl
  have q5 : qS s' = qS s := by rw [e]; rfl
  have q6 : qL s' = qL s := by rw [e]; rfl
  refine ⟨hS, by rw [q1]; exact hE.sx a1 hF, ⟨hA.keep (hlF hF) (by have := hLs.1.1.1; omega) hP hp, hLs.keep (hlF hF) kS, by rw [q2]; exact hR.keep hLs kS, by rw [h0]; exact i4, ⟨Ci, by rw [h1, q3, q4]; exact i5⟩, by rw [hI, q5, q6]; exact i6, h6⟩, by omega⟩
theorem wOut_self (s : ST) : s = wOut s (qO s) := rfl
/-- a text of x is written -/
theorem XI.wt (h : XI U c ℓ x A Es Rs s) {a j : Nat} {l : List Int} (ha : yK c a = 7) (hl : ℓ a = (x, j)) : FS (SX ℓ x (A 2)) ℓ ℓ c (wT c a l) ∧ PsI (wT c a l) ℓ (A 7) := by
  obtain ⟨-, -, ⟨hA, hLs, -⟩, -⟩ := h
  have a1 := hA.1.1
  have a2 := hA.1.2
  obtain ⟨g1, g2⟩ := hA.2.2.2.2.2.2.1
  refine ⟨⟨fun _ _ => ⟨rfl, rfl⟩, fun y _ hy => Kp_wT (fun w => hy ⟨by rw [w, hl]; show (ℓ x).1 = x; rw [a2], ?_⟩)⟩, g1.keep (fun _ _ => ⟨rfl, rfl⟩) (fun y _ w => Kp_wT (fun v => ?_))⟩
  · rintro (v | v)
    · exact kne ha hLs.1.1.1 (by decide) (w.symm.trans v)
    · rw [w, hl] at v
      exact kne a1 hLs.1.1.1 (by decide) v
  · rcases w with w | w
    · exact kne ha g1.1 (by decide) (v.symm.trans w)
    · rw [v, hl] at w
      exact kne a1 g1.1 (by decide) w
theorem XI.pr (h : XI U c ℓ x A Es Rs s) {l : List Int} (hS : SK (wOut s l)) : XE U (wT c (A 6) l) x A (wOut s l) := by
  have f := h.2.2.1.1.2.2.2.2.2.1
  obtain ⟨w1, w2⟩ := XI.wt (l := l) h f.1 f.2
  exact ⟨ℓ, Es, Rs, h.sx w1 rfl rfl w2 rfl rfl hS (yT_wT _ _ _) rfl (Nat.le_refl _)⟩
theorem k78 {i : Int} (h : XI U c ℓ x A Es Rs s) (hB : U + 2000000 ≤ B) (hi : -2147483648 ≤ i ∧ i ≤ 2147483647) (hQ : ∀ d, XE U d x A (x11 s i).2.2 → Q (rzI [1] (x11 s i)) d) : CW g B O 78 0 [some (.ref x), some (.int (iI i)), none] [] c Q := by
  obtain ⟨u1, u2, u3, u4⟩ := h.u hB
  have hS := SK11 (i := i) h.1
  unfold x11 at hQ hS
  obtain ⟨-, hE, ⟨hA, hLs, hR, -⟩, hU⟩ := id h
  obtain ⟨⟨a1, a2⟩, ⟨b0, b1, b4, b5, -⟩, -, -, -, ⟨f1, f2⟩, -⟩ := id hA
  have lk := hLs.1.1.1
  have hb := hR.2.2.2.2
  have r1 := hR.1
  have r2 := hR.2.1
  have hob := h.1.2.2.2.2.2.1.2.2.2.2.2.2.2.2
  have hX24 := h.1.2.2.2.2.2.1.2.2.2.1
  have hXl := h.1.2.2.2.2.2.1.2.2.2.2.1
  refine c78_0 ⟨fun q => ⟨a1, t82 h hB hi (fun r => ?_) (fun r => ⟨rfl, ?_⟩)⟩, fun q => ⟨a1, ?_⟩⟩
  · have ht : oB (qR s) = true := by
      cases hc : oB (qR s) with
      | true => rfl
      | false =>
        have e := hob hc
        rw [e] at r
        have r2 : i < ((0 : Nat) : Int) := r.2
        omega
    rw [if_neg (by rw [ht]; decide), if_neg q, if_pos r] at hQ hS
    obtain ⟨-, -, -, a, q4, q5⟩ := hR.2.2.1 i.toNat (by omega)
    have hri := hLs.2.2.2.2.2.2 i.toNat (by omega)
    obtain ⟨a', y1, y2, y3⟩ := hri.2.2 7 (Or.inr (Or.inr (Or.inr (Or.inr rfl))))
    rw [q4] at y1
    cases y1
    have hna : ¬ a = A 6 := lne y3 f2 (fun z => by have := congrArg Prod.snd z; dsimp only at this; omega)
    have hxl := hXl _ (mem_gD (d := []) (show i.toNat < (oX (qR s)).length by omega))
    refine c78_17 ⟨hri.1.1, a, q4, a1, A 6, b5, f1, fun d6 e6 => ?_⟩
    subst e6
    refine ⟨a1, A 6, b5, f1, y2, ?_, fun d12 e12 => ?_⟩
    · rw [yT_wT, yT_wT_ne hna, q5]
      show 0 + _ ≤ _
      omega
    · rw [yT_wT, yT_wT_ne hna, q5, wT_wT, List.nil_append] at e12
      subst e12
      refine c78_36 ⟨a1, A 6, b5, f1, ?_⟩
      rw [yT_wT]
      exact hQ _ (h.pr hS)
  · by_cases ht : oB (qR s) = false
    · rw [if_pos ht] at hQ
      exact hQ c h.e
    · rw [if_neg ht, if_neg q, if_neg r] at hQ
      exact hQ c h.e
  · have hhl := head_len (oR (qR s)).length
    have htl := tx_l
    refine c84_0 ⟨a1, A 2, b4, lk, fun z => ⟨a1, A 6, b5, f1, fun d7 e7 => ?_⟩, fun z => ⟨by omega, rfl, ?_⟩⟩
    · subst e7
      have ht : oB (qR s) = true := by
        cases hc : oB (qR s) with
        | true => rfl
        | false => rw [hc, if_neg (by decide)] at hb; exact absurd hb z
      rw [if_neg (by rw [ht]; decide), if_pos q] at hQ hS
      have h9 : (tx 9).length ≤ 12 := by decide
      refine ⟨a1, A 6, b5, f1, by decide, by rw [yT_wT]; show 0 + _ ≤ _; omega, fun d13 e13 => ?_⟩
      rw [yT_wT, wT_wT, List.nil_append] at e13
      subst e13
      refine ⟨a1, A 6, b5, a1, A 2, b4, lk, t6 (L := oR (qR s)) lk r1 (by omega) ?_⟩
      refine c84_47 ⟨f1, by omega, by rw [yT_wT]; omega, fun d4 e4 => ?_⟩
      rw [yT_wT, wT_wT] at e4
      subst e4
      have hnl := nmb_len (x := (oR (qR s)).length)
      refine ⟨a1, A 6, b5, f1, by decide, by rw [yT_wT, List.length_append]; omega, fun d10 e10 => ?_⟩
      rw [yT_wT, wT_wT] at e10
      subst e10
      refine c78_9 (c78_36 ⟨a1, A 6, b5, f1, ?_⟩)
      rw [yT_wT]
      exact hQ _ (h.pr (l := head (oR (qR s)).length) hS)
    · have ht : oB (qR s) = false := by
        cases hc : oB (qR s) with
        | false => rfl
        | true => rw [hc, if_pos rfl] at hb; omega
      rw [if_pos ht] at hQ
      exact hQ c h.e
theorem k76 {e p i : Int} (h : XI U c ℓ x A Es Rs s) (hB : U + 2000000 ≤ B) (he : -2147483648 ≤ e ∧ e ≤ 2147483647) (hp : -2147483648 ≤ p ∧ p ≤ 2147483647) (hi : -2147483648 ≤ i ∧ i ≤ 2147483647) (hQ : ∀ d, XE U d x A (x9 s e p i).2.2 → Q (rzI [0, 1] (x9 s e p i)) d) : CW g B O 76 0 [some (.ref x), some (.int (iI e)), some (.int (iI p)), some (.int (iI i))] [] c Q := by
  obtain ⟨u1, u2, u3, u4⟩ := h.u hB
  unfold x9 at hQ
  obtain ⟨hS, hE, ⟨hA, hLs, hR, -, -, -, i7⟩, hU⟩ := id h
  obtain ⟨⟨a1, a2⟩, ⟨b0, b1, b4, b5, b6, b7⟩, ⟨c1, c2⟩, ⟨d1, d2⟩, e1, ⟨f1, f2⟩, ⟨g1, g2⟩, j1, j2⟩ := id hA
  have lk := hLs.1.1.1
  refine c76_0 ⟨a1, A 7, b6, a1, t81 h hB he (fun z => ?_) (fun z => ⟨rfl, ?_⟩)⟩
  · rw [if_neg (fun q => q z)] at hQ
    have hz : e.toNat < dN (qD s) := by omega
    have hv := val_ok hS.1 e.toNat 0
    have hn40 := np40 hv.1
    refine c76_9 ⟨(hE.2 _ hz).1.1, t3 (f := 0) hS.1 hE hz (by decide) (fun w w1 w2 w3 => c76_13 ⟨g1.1, ?_⟩)⟩
    refine t20 (src := w) (t := val (qD s) e.toNat 0) g1 w1 w2 (fun q => by rw [q] at w3; have := w3.1; have := g1.1; omega) hv.1 (by omega) (fun d ℓ' ps pv q0 F U => ?_)
    have nSP : ∀ y j, ℓ y = (x, j) → ¬ y = A 7 → ¬ SP ℓ (A 7) y := fun y j hy hn q => by
      rcases q with q | q
      · exact hn q
      · rw [hy] at q
        exact kne a1 g1.1 (by decide) q
    have kx := F.2 x (by omega) (nSP x 0 a2 (kne a1 g1.1 (by decide)))
    have k0 := F.2 (A 0) (by omega) (nSP _ _ c2 (kne c1 g1.1 (by decide)))
    have k1 := F.2 (A 1) (by omega) (nSP _ _ d2 (kne d1 g1.1 (by decide)))
    have k6 := F.2 (A 6) (by omega) (nSP _ _ f2 (kne f1 g1.1 (by decide)))
    have hF : FS (SX ℓ x (A 2)) ℓ ℓ' c d := F.mono (fun y _ q => by
      rcases q with q | q
      · refine ⟨by rw [q, g2]; show (ℓ x).1 = x; rw [a2], ?_⟩
        rintro (v | v)
        · exact kne g1.1 lk (by decide) (q.symm.trans v)
        · rw [q, g2] at v
          exact kne a1 lk (by decide) v
      · refine ⟨by rw [q, g2], ?_⟩
        rintro (v | v)
        · rw [v, e1] at q
          exact kne a1 g1.1 (by decide) q
        · exact kne g1.1 lk (by decide) (q.symm.trans v))
    have hd := h.sx hF kx.2.2.1 kx.2.1 ps k0.2.2.2.2 k1.2.2.2.2 hS (by rw [k6.2.2.2.1]; exact i7) (wOut_self s) U
    obtain ⟨v1, v2, v3, v4⟩ := hd.u hB
    obtain ⟨-, -, ⟨hA', -⟩, -⟩ := id hd
    obtain ⟨⟨a1', a2'⟩, ⟨-, -, -, -, b6', b7'⟩, -, -, -, -, -, j1', j2'⟩ := id hA'
    have ex : (p < 0 ∨ np (val (qD s) e.toNat 0) ≤ p) → ∀ {l0 l1 l2 l3 : Option Value}, CW g B O 76 31 [l0, l1, l2, l3] [] d Q := fun q l0 l1 l2 l3 => by
      rw [if_pos q] at hQ
      exact c76_31 ⟨by omega, hQ d hd.e⟩
    have hnp := pv.2.1
    refine c76_16 ⟨fun q => ex (Or.inl q), fun q => ⟨a1', A 7, b6', pv.1.1, t19 pv.1.1 ?_⟩⟩
    rw [hnp]
    refine c76_28 ⟨fun r => ⟨a1', A 8, b7', j1', fun d4 e4 => ?_⟩, fun r => ex (Or.inr r)⟩
    obtain ⟨k, rfl⟩ : ∃ k : Nat, p = k := ⟨p.toNat, by omega⟩
    rw [if_neg (by omega), Int.toNat_natCast] at hQ
    subst e4
    have hsa : ¬ yP d (A 7) 0 = some (A 8) := fun z => by
      rw [q0] at z
      cases z
      rw [j2] at w3
      have w3 : yK c x = 2 := w3.1
      omega
    refine ⟨a1', A 7, b6', a1', A 8, b7', pv.1.1, t33 (i := k) (pv.out hsa) (by omega) hv.1 j1' hsa (by rw [yT_wT]; show 0 + 130 ≤ 1024; omega) ?_⟩
    rw [yT_wT, wT_wT, List.nil_append]
    have hil := inits_len (ws := gv (val (qD s) e.toNat 0) k)
    obtain ⟨w1', w2'⟩ := XI.wt (l := inits (gv (val (qD s) e.toNat 0) k)) hd j1' j2'
    have n6 : ¬ A 6 = A 8 := lne f2 j2 (by simp)
    have hfin := hd.sx w1' rfl rfl w2' rfl rfl hS (by rw [yT_wT_ne n6, k6.2.2.2.1]; exact i7) (wOut_self s) (Nat.le_refl _)
    obtain ⟨v1', -⟩ := hfin.u hB
    refine cq_R fun hRc => c76_60 ⟨fun y => ⟨a1', A 8, b7', t85 j1' hi (by omega) (fun t => ?_) (fun t => ⟨rfl, ?_⟩)⟩, fun y => ⟨a1', A 8, b7', j1', ?_⟩⟩
    · have hsg := (hRc.2.1 (A 8) j1').2 i
      have es : sg (yT (wT d (A 8) (inits (gv (val (qD s) e.toNat 0) k))) (A 8)) i = (yT (wT d (A 8) (inits (gv (val (qD s) e.toNat 0) k))) (A 8)).getD i.toNat 0 := by
        obtain ⟨j, rfl⟩ : ∃ j : Nat, i = j := ⟨i.toNat, by omega⟩
        rw [sg_nat, Int.toNat_natCast]
      rw [es] at hsg
      rw [yT_wT] at t hsg ⊢
      rw [if_neg y, if_neg (by omega)] at hQ
      exact c76_83 (hQ _ hfin.e) (hu0 := by omega)
    · rw [yT_wT] at t
      rw [if_neg y, if_pos (by omega)] at hQ
      exact hQ _ hfin.e
    · rw [yT_wT]
      rw [if_pos y] at hQ
      have hlr := (hRc.2.1 (A 8) j1').1
      rw [yT_wT] at hlr
      exact c76_83 (hQ _ hfin.e) (hu0 := by omega)
  · rw [if_pos z] at hQ
    exact hQ c h.e
end CCall2
