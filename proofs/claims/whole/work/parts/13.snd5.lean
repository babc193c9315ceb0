section Spc
variable {p : Program} {l : Launch} {e : Env} {s : State} {m : MethodId} {args : Array Value} {below : List Frame} {meth : Method} {c : Code} {Q : State → Prop}
variable {D : va_G} {g : Nat → Nat} {C S k : Nat} {σ0 : PS}
theorem sp_link {i k2 : Nat} (h : cR (mO k) i = some k2) (hk : 1000 ≤ k2) : Cond.methodLink (ownS (mO k)) i (spN k2) ∈ gW := by
  rcases cR_ok _ _ _ h with q | q
  · have := q.1
    simp only at this
    omega
  · exact q.2.2
theorem v_oinit (X : Cx p l s m args meth c D g C S k σ0) {pc i a : Nat} {lf : LV} {r : List Value} {σ : PS} (hd : decode (mB k) pc = .ok (.invokespecial i, 3)) (hc : cR (mO k) i = some 1000) (hr : r.length ≤ 4) (hf : 1 ≤ mF k) (hw : 20 ≤ mW k)
    (h : VV p l e s m args below meth c D g C S k σ0 Q (pc + 3) lf r σ) : VV p l e s m args below meth c D g C S k σ0 Q pc lf (.ref a :: r) σ := by
  obtain ⟨⟨hx, hb, hml, hown, hts⟩, -, ⟨hE, hH, hsz, -⟩, -⟩ := X
  intro H locs ls h1 h2 h3 h4 h5 h6 h7
  have hs := len_sum r
  exact W.objInit hx hb hown (hts _ (sp_link hc (by decide))) (hts _ gs_oi) (hts _ gs_oc) rfl (by rw [hml]; exact h1.1.trans h2) rfl hd hf (by show 2 * 0 + _ + 12 ≤ mW k; omega) (h H locs ls h1 h2 h3 h4 h5 h6 h7)
theorem v_max (X : Cx p l s m args meth c D g C S k σ0) {pc i : Nat} {x y : Int32} {lf : LV} {r : List Value} {σ : PS} (hd : decode (mB k) pc = .ok (.invokestatic i, 3)) (hc : cR (mO k) i = some 1002) (hr : r.length ≤ 4) (hf : 1 ≤ mF k) (hw : 21 ≤ mW k)
    (h : VV p l e s m args below meth c D g C S k σ0 Q (pc + 3) lf (.int (if x < y then y else x) :: r) σ) : VV p l e s m args below meth c D g C S k σ0 Q pc lf (.int y :: .int x :: r) σ := by
  obtain ⟨⟨hx, hb, hml, hown, hts⟩, -, ⟨hE, hH, hsz, -⟩, -⟩ := X
  intro H locs ls h1 h2 h3 h4 h5 h6 h7
  have hs := len_sum r
  have hle := h6.1
  exact va_mmax hx hb (by rw [hml]; exact (h1.1.trans h2).symm) hown (hts _ (sp_link hc (by decide))) (hts _ gs_max.1) (hts _ gs_mi) (hts _ gs_max.2) hf (by show _ + 13 ≤ mW k; omega) (by show _ ≤ C - zN σ0; omega) (by show _ ≤ S - zS σ0; omega) hd (h H locs ls h1 h2 h3 h4 h5 h6 h7)
theorem v_min (X : Cx p l s m args meth c D g C S k σ0) {pc i : Nat} {x y : Int32} {lf : LV} {r : List Value} {σ : PS} (hd : decode (mB k) pc = .ok (.invokestatic i, 3)) (hc : cR (mO k) i = some 1003) (hr : r.length ≤ 4) (hf : 1 ≤ mF k) (hw : 21 ≤ mW k)
    (h : VV p l e s m args below meth c D g C S k σ0 Q (pc + 3) lf (.int (if y < x then y else x) :: r) σ) : VV p l e s m args below meth c D g C S k σ0 Q pc lf (.int y :: .int x :: r) σ := by
  obtain ⟨⟨hx, hb, hml, hown, hts⟩, -, ⟨hE, hH, hsz, -⟩, -⟩ := X
  intro H locs ls h1 h2 h3 h4 h5 h6 h7
  have hs := len_sum r
  have hle := h6.1
  exact va_mmin hx hb (by rw [hml]; exact (h1.1.trans h2).symm) hown (hts _ (sp_link hc (by decide))) (hts _ gs_min.1) (hts _ gs_mi) (hts _ gs_min.2) hf (by show _ + 13 ≤ mW k; omega) (by show _ ≤ C - zN σ0; omega) (by show _ ≤ S - zS σ0; omega) hd (h H locs ls h1 h2 h3 h4 h5 h6 h7)
theorem o_arr (hE : EnvT D g s) {H : Heap} {Ls : List Nat} {σ : PS} {a : Nat} (hL : ∀ a, a ∈ Ls ↔ live (zK σ a)) (hP : va_P D vwCl (va_pl Ls (cel g σ)) H) (hk : zK σ a = 104) : ∃ cell : Cell, H[a]? = some cell ∧ cell.vm.isStatics = false ∧ s.vm.findClass "[Ljava/lang/Object;" = some cell.cls := by
  obtain ⟨q0, he⟩ := pl_at hL (live_a (by omega)) (cel_104 (g := g) hk)
  have h1 : H[a]? = some (vp_cell (g 5) _) := hP q0 _ he
  obtain ⟨_, _, _, _, _, w4⟩ := (hE.1.2 3 _ rfl).2
  exact ⟨_, h1, rfl, w4⟩
theorem v_getC (X : Cx p l s m args meth c D g C S k σ0) {pc i a : Nat} {lf : LV} {r : List Value} {σ : PS} (hd : decode (mB k) pc = .ok (.invokevirtual i, 3)) (hc : cR (mO k) i = some 1004) (hr : r.length ≤ 4) (hf : 1 ≤ mF k) (hw : 22 ≤ mW k) (hk : zK σ a = 104)
    (h : VV p l e s m args below meth c D g C S k σ0 Q (pc + 3) lf (.ref (g 7) :: r) σ) : VV p l e s m args below meth c D g C S k σ0 Q pc lf (.ref a :: r) σ := by
  obtain ⟨⟨hx, hb, hml, hown, hts⟩, -, ⟨hE, hH, hsz, -⟩, -⟩ := X
  intro H locs ls h1 h2 h3 h4 h5 h6 h7
  have hs := len_sum r
  have kk := h H locs ls h1 h2 h3 h4 h5 h6 h7
  obtain ⟨Ls, hL, hP, hD⟩ := h5
  exact va_getC hx hb (by rw [hml]; exact (h1.1.trans h2).symm) hown (hts _ (sp_link hc (by decide))) hE.2.2.2.2.2.2.2.1.use (hts _ gs_gs) (hts _ gs_gi) (hts _ gs_gn) hE.2.2.2.2.2.2.1 (o_arr hE hL hP hk) hf (by show _ + 14 ≤ mW k; omega) hd kk
theorem v_copI (X : Cx p l s m args meth c D g C S k σ0) {pc i a b : Nat} {sp dp n : Int32} {lf : LV} {r : List Value} {σ : PS} (hd : decode (mB k) pc = .ok (.invokestatic i, 3)) (hc : cR (mO k) i = some 1001) (hr : r.length ≤ 4) (hf : 1 ≤ mF k) (hw : 60 ≤ mW k)
    (e1 : ¬ sp < 0) (e2 : ¬ dp < 0) (e3 : ¬ n < 0) (e4 : sp.toNatClampNeg + n.toNatClampNeg ≤ zL σ a) (e5 : dp.toNatClampNeg + n.toNatClampNeg ≤ zL σ b) (ka : zK σ a = 102) (kb : zK σ b = 102) (hn : ∀ i, i < n.toNatClampNeg → narrow .char (.int (zI σ a (sp.toNatClampNeg + i))) = .int (zI σ a (sp.toNatClampNeg + i)))
    (h : VV p l e s m args below meth c D g C S k σ0 Q (pc + 3) lf r (cpI σ a sp.toNatClampNeg b dp.toNatClampNeg n.toNatClampNeg)) : VV p l e s m args below meth c D g C S k σ0 Q pc lf (.int n :: .int dp :: .ref b :: .int sp :: .ref a :: r) σ := by
  have X0 := X
  obtain ⟨⟨hx, hb, hml, hown, hts⟩, -, ⟨hE, hH, hsz, -⟩, -⟩ := X
  intro H locs ls h1 h2 h3 h4 h5 h6 h7
  have hs := len_sum r
  obtain ⟨Ls, hL, hP, hD⟩ := h5
  have hlv : live (zK σ b) := live_a (by omega)
  obtain ⟨q0, ha⟩ := pl_at hL (live_a (by omega)) (cel_102 (g := g) ka)
  obtain ⟨q1, hq⟩ := pl_at (g := g) hL hlv rfl
  have he : (va_pl Ls (cel g σ))[q1]? = some (b, .inl (g 3, zL σ b, .inl (zI σ b))) := by rw [hq, cel_102 kb]
  refine va_copyi hx hb (by rw [hml]; exact (h1.1.trans h2).symm) hown (hts _ (sp_link hc (by decide))) (hts _ gs_an) (hts _ gs_as) (hts _ gs_ai) hE.1 hP hD (S_self h6) q0 q1 1 1 ha he rfl rfl (by rfl) e1 e2 e3 e4 e5 (fun i hi => ?_) hf ?_ hd (fun H1 locs1 hP1 hD1 hS1 => VV.put X0 h h1 h2 h3 h4 h6 (c_cpI h7 (by omega)) hL hD hlv hq rfl rfl rfl (cel_up ?_ o_cpI) hP1 hD1 hS1)
  · have hz := fits_narrow_char (zI σ a (sp.toNatClampNeg + i))
    rw [hn i hi] at hz
    exact hz
  · show _ + (nativeFrameWords "java/lang/System" "arraycopy" 5 + 11) ≤ mW k
    have : nativeFrameWords "java/lang/System" "arraycopy" 5 = 7 := by decide +kernel
    omega
  · have e : zI (cpI σ a sp.toNatClampNeg b dp.toNatClampNeg n.toNatClampNeg) b = va_cpy (zI σ a) (zI σ b) sp.toNatClampNeg dp.toNatClampNeg n.toNatClampNeg := by funext j; simp [zI, cpI]
    rw [cel_102 (show zK (cpI σ a sp.toNatClampNeg b dp.toNatClampNeg n.toNatClampNeg) b = 102 from kb), e]
    rfl
theorem v_copP (X : Cx p l s m args meth c D g C S k σ0) {pc i a b : Nat} {sp dp n : Int32} {lf : LV} {r : List Value} {σ : PS} (hd : decode (mB k) pc = .ok (.invokestatic i, 3)) (hc : cR (mO k) i = some 1001) (hr : r.length ≤ 4) (hf : 1 ≤ mF k) (hw : 60 ≤ mW k)
    (e1 : ¬ sp < 0) (e2 : ¬ dp < 0) (e3 : ¬ n < 0) (e4 : sp.toNatClampNeg + n.toNatClampNeg ≤ zL σ a) (e5 : dp.toNatClampNeg + n.toNatClampNeg ≤ zL σ b) (ka : zK σ a = 104) (kb : zK σ b = 104) (hn : ∀ i, i < n.toNatClampNeg → okP σ (zP σ a (sp.toNatClampNeg + i)) = true)
    (h : VV p l e s m args below meth c D g C S k σ0 Q (pc + 3) lf r (cpP σ a sp.toNatClampNeg b dp.toNatClampNeg n.toNatClampNeg)) : VV p l e s m args below meth c D g C S k σ0 Q pc lf (.int n :: .int dp :: .ref b :: .int sp :: .ref a :: r) σ := by
  have X0 := X
  obtain ⟨⟨hx, hb, hml, hown, hts⟩, -, ⟨hE, hH, hsz, -⟩, -⟩ := X
  intro H locs ls h1 h2 h3 h4 h5 h6 h7
  have hs := len_sum r
  obtain ⟨Ls, hL, hP, hD⟩ := h5
  have hlv : live (zK σ b) := live_a (by omega)
  obtain ⟨q0, ha⟩ := pl_at hL (live_a (by omega)) (cel_104 (g := g) ka)
  obtain ⟨q1, hq⟩ := pl_at (g := g) hL hlv rfl
  have he : (va_pl Ls (cel g σ))[q1]? = some (b, .inl (g 5, zL σ b, .inr (.inr (.inr (.inr (zP σ b)))))) := by rw [hq, cel_104 kb]
  refine va_copyM hx hb (by rw [hml]; exact (h1.1.trans h2).symm) hown (hts _ (sp_link hc (by decide))) (hts _ gs_an) (hts _ gs_as) (hts _ gs_ai) hE.1 hP hD (S_self h6) q0 q1 3 3 ha he rfl rfl e1 e2 e3 e4 e5 (fun i hi y hy => ?_) hf ?_ hd (fun H1 locs1 hP1 hD1 hS1 => VV.put X0 h h1 h2 h3 h4 h6 (c_cpP h7 (by omega)) hL hD hlv hq rfl rfl rfl (cel_up ?_ o_cpP) hP1 hD1 hS1)
  · have hz := hn i hi
    rw [hy] at hz
    obtain ⟨cI, hcI, hcy⟩ := okP_8 hz
    obtain ⟨qk, hv⟩ := pl_at hL (live_8 hcI hcy) (cel_obj (g := g) hcI hcy)
    obtain ⟨c1, -⟩ := cl_ok cI hcI
    refine va_rAny hE.1 hP hv c1 (fun comp c0 w1 w2 => ?_)
    obtain ⟨c3, c4, hc3, hc4, hasg⟩ := Cond.castable_spec (hE.2.2.2.1 cI hcI)
    cases Option.some.inj (hc3.symm.trans w2)
    cases Option.some.inj (hc4.symm.trans w1)
    exact hasg
  · show _ + (nativeFrameWords "java/lang/System" "arraycopy" 5 + 11) ≤ mW k
    have : nativeFrameWords "java/lang/System" "arraycopy" 5 = 7 := by decide +kernel
    omega
  · have e : zP (cpP σ a sp.toNatClampNeg b dp.toNatClampNeg n.toNatClampNeg) b = va_cpy (zP σ a) (zP σ b) sp.toNatClampNeg dp.toNatClampNeg n.toNatClampNeg := by funext j; simp [zP, cpP]
    rw [cel_104 (show zK (cpP σ a sp.toNatClampNeg b dp.toNatClampNeg n.toNatClampNeg) b = 104 from kb), e]
    rfl
theorem sR_ok : ∀ o i j, sR o i = some j → (o = 2 ∧ i = 106 ∧ j = 0) ∨ (o = 0 ∧ i = 39 ∧ j = 1) ∨ (o = 9 ∧ i = 38 ∧ j = 2) ∨ (o = 9 ∧ i = 1053 ∧ j = 3) := by
  intro o i j h
  unfold sR at h
  split at h <;> first | (cases h; simp; done) | (simp at h; done)
theorem v_gets (X : Cx p l s m args meth c D g C S k σ0) {pc i j : Nat} {v : Value} {lf : LV} {r : List Value} {σ : PS} (hd : decode (mB k) pc = .ok (.getstatic i, 3)) (hs : sR (mO k) i = some j) (hv : stO g j = some v)
    (h : VV p l e s m args below meth c D g C S k σ0 Q (pc + 3) lf (v :: r) σ) : VV p l e s m args below meth c D g C S k σ0 Q pc lf r σ := by
  obtain ⟨⟨hx, hb, hml, hown, hts⟩, -, ⟨hE, hH, hsz, -⟩, -⟩ := X
  intro H locs ls h1 h2 h3 h4 h5 h6 h7
  have kk := h H locs ls h1 h2 h3 h4 h5 h6 h7
  rcases sR_ok _ _ _ hs with ⟨eo, rfl, rfl⟩ | ⟨eo, rfl, rfl⟩ | ⟨eo, rfl, rfl⟩ | ⟨eo, rfl, rfl⟩
  · rw [eo] at hown
    cases hv
    exact va_getsN hx hb hH.1 h6 hown (hE.2.2.2.2.2.2.2.2.1.use rfl) (fun _ h9 => h9) hd kk
  · rw [eo] at hown
    cases hv
    exact va_gets hx hb hH.2.2.1 h6 hown (hts _ gs_st1) (fun _ h9 => h9) hd kk
  · rw [eo] at hown
    cases hv
    exact va_gets hx hb hH.2.2.2.2.1 h6 hown (hts _ gs_st2) (fun _ h9 => h9) hd kk
  · rw [eo] at hown
    cases hv
    exact va_gets hx hb hH.2.2.2.2.2.1 h6 hown (hts _ gs_st3) (fun _ h9 => h9) hd kk
theorem v_chk (X : Cx p l s m args meth c D g C S k σ0) {pc i cI a : Nat} {lf : LV} {r : List Value} {σ : PS} (hd : decode (mB k) pc = .ok (.checkcast i, 3)) (hk : kR (mO k) i = some cI) (hc : (cI ≤ 8 ∧ zK σ a = cI + 1) ∨ (cI = 204 ∧ zK σ a = 104))
    (h : VV p l e s m args below meth c D g C S k σ0 Q (pc + 3) lf (.ref a :: r) σ) : VV p l e s m args below meth c D g C S k σ0 Q pc lf (.ref a :: r) σ := by
  obtain ⟨⟨hx, hb, hml, hown, hts⟩, -, ⟨hE, hH, hsz, -⟩, -⟩ := X
  intro H locs ls h1 h2 h3 h4 h5 h6 h7
  have kk := h H locs ls h1 h2 h3 h4 h5 h6 h7
  obtain ⟨Ls, hL, hP, hD⟩ := h5
  have hlink := hts _ (kR_ok _ _ _ hk)
  rcases hc with ⟨hc, hz⟩ | ⟨rfl, hz⟩
  · obtain ⟨c1, -⟩ := cl_ok cI hc
    obtain ⟨q0, he⟩ := pl_at hL (live_8 hc hz) (cel_obj (g := g) hc hz)
    exact va_castS hx hb hown hlink (hE.1.1 cI _ c1).2 (va_recv hE.1 hP c1 he) hd kk
  · obtain ⟨q0, he⟩ := pl_at hL (live_a (by omega)) (cel_104 (g := g) hz)
    obtain ⟨_, _, _, _, _, w4⟩ := (hE.1.2 3 _ rfl).2
    exact va_castA hx hb hown hlink hP q0 he w4 hd kk
theorem v_ldcS (X : Cx p l s m args meth c D g C S k σ0) {pc i j : Nat} {lf : LV} {r : List Value} {σ : PS} (hd : decode (mB k) pc = .ok (.ldc i, 2)) (hk : lS (mO k) i = some j)
    (h : VV p l e s m args below meth c D g C S k σ0 Q (pc + 2) lf (.ref (g (100 + j)) :: r) σ) : VV p l e s m args below meth c D g C S k σ0 Q pc lf r σ := by
  obtain ⟨⟨hx, hb, hml, hown, hts⟩, -, ⟨hE, hH, hsz, -⟩, -⟩ := X
  intro H locs ls h1 h2 h3 h4 h5 h6 h7
  have kk := h H locs ls h1 h2 h3 h4 h5 h6 h7
  obtain ⟨tx, ht, -⟩ := lS_ok _ _ _ hk
  exact va_ldcS hx hb hown (hE.2.2.2.2.2.2.2.2.2.1 (ownS (mO k), i, tx, j) ht) hd kk
/-! ends -/
theorem v_ret (X : Cx p l s m args meth c D g C S k σ0) {pc : Nat} {x : Int32} {lf : LV} {σ : PS} (hd : decode (mB k) pc = .ok (.ireturn, 1)) (hn : nOK (mR k) x = true) :
    VV p l e s m args below meth c D g C S k σ0 (vx_MQ below (QcK D g C S σ0 (Sum.inl (some (.int x))) σ) (XcK D g σ0 (Sum.inl (some (.int x))) σ) args s (C - zN σ0) (S - zS σ0) (Ar σ0)) pc lf [.int x] σ := by
  obtain ⟨⟨hx, hb, hml, hown, hts⟩, ⟨hlocks, hret, -, -⟩, ⟨hE, hH, hsz, -⟩, -⟩ := X
  intro H locs ls h1 h2 h3 h4 h5 h6 h7
  have hle := h6.1
  refine W_look fun z1 z2 => ?_
  refine vx_ret ?_
  refine W.widen (k := C - zN σ0) (n := S - zS σ0) (by omega) (by omega) ?_
  have hty : ∃ ty, mR k = some ty ∧ narrow ty (.int x) = .int x := by
    cases hr : mR k with
    | none => rw [hr] at hn; cases hn
    | some ty =>
      refine ⟨ty, rfl, ?_⟩
      rw [hr] at hn
      cases ty <;> simp [nOK] at hn <;> first | rfl | exact hn | (rcases hn with rfl | rfl <;> rfl)
  obtain ⟨ty, ht, hnr⟩ := hty
  exact W.zret hx hb (hret.trans ht) hnr (fun t ht hW => ⟨⟨_, rfl, rfl, by rw [ht]; exact h3, by rw [ht]; omega, by rw [ht]; exact h5, h7, h4.1, h4.2.1, h4.2.2⟩, h6.F ht⟩) h6.2.2 hd
theorem v_aret (X : Cx p l s m args meth c D g C S k σ0) {pc : Nat} {q : Option Nat} {lf : LV} {σ : PS} (hd : decode (mB k) pc = .ok (.areturn, 1)) (hn : aOK (mR k) = true) :
    VV p l e s m args below meth c D g C S k σ0 (vx_MQ below (QcK D g C S σ0 (Sum.inl (some (va_rf q))) σ) (XcK D g σ0 (Sum.inl (some (va_rf q))) σ) args s (C - zN σ0) (S - zS σ0) (Ar σ0)) pc lf [va_rf q] σ := by
  obtain ⟨⟨hx, hb, hml, hown, hts⟩, ⟨hlocks, hret, -, -⟩, ⟨hE, hH, hsz, -⟩, -⟩ := X
  intro H locs ls h1 h2 h3 h4 h5 h6 h7
  have hle := h6.1
  refine W_look fun z1 z2 => ?_
  refine vx_ret ?_
  refine W.widen (k := C - zN σ0) (n := S - zS σ0) (by omega) (by omega) ?_
  have hty : ∃ ty, mR k = some ty ∧ ((∃ n, ty = .object n) ∨ ∃ t, ty = .array t) := by
    cases hr : mR k with
    | none => rw [hr] at hn; cases hn
    | some ty =>
      refine ⟨ty, rfl, ?_⟩
      rw [hr] at hn
      cases ty <;> simp [aOK] at hn <;> simp
  obtain ⟨ty, ht, hrt⟩ := hty
  exact W.aret hx hb (hret.trans ht) hrt (by cases q <;> simp [va_rf]) (fun t ht hW => ⟨⟨_, rfl, rfl, by rw [ht]; exact h3, by rw [ht]; omega, by rw [ht]; exact h5, h7, h4.1, h4.2.1, h4.2.2⟩, h6.F ht⟩) h6.2.2 hd
theorem v_vret (X : Cx p l s m args meth c D g C S k σ0) {pc : Nat} {lf : LV} {σ : PS} (hd : decode (mB k) pc = .ok (.return_, 1)) (hn : mR k = none) :
    VV p l e s m args below meth c D g C S k σ0 (vx_MQ below (QcK D g C S σ0 (Sum.inl none) σ) (XcK D g σ0 (Sum.inl none) σ) args s (C - zN σ0) (S - zS σ0) (Ar σ0)) pc lf [] σ := by
  obtain ⟨⟨hx, hb, hml, hown, hts⟩, ⟨hlocks, hret, -, -⟩, ⟨hE, hH, hsz, -⟩, -⟩ := X
  intro H locs ls h1 h2 h3 h4 h5 h6 h7
  have hle := h6.1
  refine W_look fun z1 z2 => ?_
  refine vx_ret ?_
  refine W.widen (k := C - zN σ0) (n := S - zS σ0) (by omega) (by omega) ?_
  exact W.vret hx hb (hret.trans hn) (fun t ht hW => ⟨⟨_, rfl, rfl, by rw [ht]; exact h3, by rw [ht]; omega, by rw [ht]; exact h5, h7, h4.1, h4.2.1, h4.2.2⟩, h6.F ht⟩) h6.2.2 hd
end Spc
