section Snd
variable {p : Program} {l : Launch} {e : Env} {s : State} {m : MethodId} {args : Array Value} {below : List Frame} {meth : Method} {c : Code} {Q : State → Prop}
variable {D : va_G} {g : Nat → Nat} {C S k : Nat} {σ0 : PS}
/-! arrays -/
theorem in_of {j : Int32} {n : Nat} (h0 : ¬ j < 0) (h1 : j.toNatClampNeg < n) : vp_in j n := fun q => q.elim h0 (fun z => absurd h1 (Nat.not_lt.mpr z))
theorem live_a {κ : Nat} (h : 101 ≤ κ ∧ κ ≤ 104) : live κ := Or.inr h
theorem v_iald (X : Cx p l s m args meth c D g C S k σ0) {pc a : Nat} {j : Int32} {lf : LV} {r : List Value} {σ : PS} (hd : decode (mB k) pc = .ok (.iaload, 1)) (hk : zK σ a = 101 ∨ zK σ a = 1002) (h0 : ¬ j < 0) (hj : j.toNatClampNeg < zL σ a)
    (h : VV p l e s m args below meth c D g C S k σ0 Q (pc + 1) lf (.int (zI σ a j.toNatClampNeg) :: r) σ) : VV p l e s m args below meth c D g C S k σ0 Q pc lf (.int j :: .ref a :: r) σ := by
  obtain ⟨⟨hx, hb, hml, hown, hts⟩, -, ⟨hE, hH, hsz, -⟩, -⟩ := X
  intro H locs ls h1 h2 h3 h4 h5 h6 h7
  have kk := h H locs ls h1 h2 h3 h4 h5 h6 h7
  obtain ⟨Ls, hL, hP, hD⟩ := h5
  rcases hk with hk | hk
  · obtain ⟨q0, he⟩ := pl_at hL (live_a (by omega)) (cel_101 (g := g) hk)
    exact va_iald hx hb hE.1 hP q0 0 he rfl (in_of h0 hj) hd kk
  · rcases h7 a (by omega) with ⟨q, -⟩ | ⟨q, -⟩ | ⟨-, rfl, e1, e2⟩ | ⟨q, -⟩
    · omega
    · omega
    · rw [e1] at hj
      exact va_ti hx hb hH.2.1 h6 (in_of h0 hj) (v := .int (zI σ (g 0) j.toNatClampNeg)) (by rw [e2 _ hj]) hd kk
    · omega
theorem v_cald (X : Cx p l s m args meth c D g C S k σ0) {pc a : Nat} {j : Int32} {lf : LV} {r : List Value} {σ : PS} (hd : decode (mB k) pc = .ok (.caload, 1)) (hk : zK σ a = 102) (h0 : ¬ j < 0) (hj : j.toNatClampNeg < zL σ a)
    (h : VV p l e s m args below meth c D g C S k σ0 Q (pc + 1) lf (.int (zI σ a j.toNatClampNeg) :: r) σ) : VV p l e s m args below meth c D g C S k σ0 Q pc lf (.int j :: .ref a :: r) σ := by
  obtain ⟨⟨hx, hb, hml, hown, hts⟩, -, ⟨hE, hH, hsz, -⟩, -⟩ := X
  intro H locs ls h1 h2 h3 h4 h5 h6 h7
  have kk := h H locs ls h1 h2 h3 h4 h5 h6 h7
  obtain ⟨Ls, hL, hP, hD⟩ := h5
  obtain ⟨q0, he⟩ := pl_at hL (live_a (by omega)) (cel_102 (g := g) hk)
  exact va_cald hx hb hE.1 hP q0 1 he rfl (in_of h0 hj) hd kk
theorem v_bald (X : Cx p l s m args meth c D g C S k σ0) {pc a : Nat} {j : Int32} {lf : LV} {r : List Value} {σ : PS} (hd : decode (mB k) pc = .ok (.baload, 1)) (hk : zK σ a = 1001) (h0 : ¬ j < 0) (hj : j.toNatClampNeg < zL σ a)
    (h : VV p l e s m args below meth c D g C S k σ0 Q (pc + 1) lf (.int (zI σ a j.toNatClampNeg) :: r) σ) : VV p l e s m args below meth c D g C S k σ0 Q pc lf (.int j :: .ref a :: r) σ := by
  obtain ⟨⟨hx, hb, hml, hown, hts⟩, -, ⟨hE, hH, hsz, -⟩, -⟩ := X
  intro H locs ls h1 h2 h3 h4 h5 h6 h7
  have kk := h H locs ls h1 h2 h3 h4 h5 h6 h7
  rcases h7 a (by omega) with ⟨q, -⟩ | ⟨-, n, hn, rfl, e1, e2⟩ | ⟨q, -⟩ | ⟨q, -⟩
  · omega
  · rw [e1] at hj
    exact va_tb hx hb ((hH.2.2.2.2.2.2.1).1 n hn).2.2.2 h6 (in_of h0 hj) (v := .int (zI σ (g (200 + n)) j.toNatClampNeg)) (by rw [e2 _ hj]; rfl) hd kk
  · omega
  · omega
theorem v_aald (X : Cx p l s m args meth c D g C S k σ0) {pc a : Nat} {j : Int32} {lf : LV} {r : List Value} {σ : PS} (hd : decode (mB k) pc = .ok (.aaload, 1)) (hk : zK σ a = 103 ∨ zK σ a = 104) (h0 : ¬ j < 0) (hj : j.toNatClampNeg < zL σ a)
    (h : VV p l e s m args below meth c D g C S k σ0 Q (pc + 1) lf (va_rf (zP σ a j.toNatClampNeg) :: r) σ) : VV p l e s m args below meth c D g C S k σ0 Q pc lf (.int j :: .ref a :: r) σ := by
  obtain ⟨⟨hx, hb, hml, hown, hts⟩, -, ⟨hE, hH, hsz, -⟩, -⟩ := X
  intro H locs ls h1 h2 h3 h4 h5 h6 h7
  have kk := h H locs ls h1 h2 h3 h4 h5 h6 h7
  obtain ⟨Ls, hL, hP, hD⟩ := h5
  rcases hk with hk | hk
  · obtain ⟨q0, he⟩ := pl_at hL (live_a (by omega)) (cel_103 (g := g) hk)
    exact va_aldq hx hb hE.1 hP q0 2 he rfl (in_of h0 hj) hd kk
  · obtain ⟨q0, he⟩ := pl_at hL (live_a (by omega)) (cel_104 (g := g) hk)
    exact va_aldq hx hb hE.1 hP q0 3 he rfl (in_of h0 hj) hd kk
theorem v_alen (X : Cx p l s m args meth c D g C S k σ0) {pc a : Nat} {lf : LV} {r : List Value} {σ : PS} (hd : decode (mB k) pc = .ok (.arraylength, 1)) (hk : (101 ≤ zK σ a ∧ zK σ a ≤ 104) ∨ zK σ a = 1001 ∨ zK σ a = 1003)
    (h : VV p l e s m args below meth c D g C S k σ0 Q (pc + 1) lf (.int (Int32.ofNat (zL σ a)) :: r) σ) : VV p l e s m args below meth c D g C S k σ0 Q pc lf (.ref a :: r) σ := by
  obtain ⟨⟨hx, hb, hml, hown, hts⟩, -, ⟨hE, hH, hsz, -⟩, -⟩ := X
  intro H locs ls h1 h2 h3 h4 h5 h6 h7
  have kk := h H locs ls h1 h2 h3 h4 h5 h6 h7
  obtain ⟨Ls, hL, hP, hD⟩ := h5
  rcases hk with hk | hk | hk
  · have hlv := live_a hk
    rcases (show zK σ a = 101 ∨ zK σ a = 102 ∨ zK σ a = 103 ∨ zK σ a = 104 by omega) with q | q | q | q
    · obtain ⟨q0, he⟩ := pl_at hL hlv (cel_101 (g := g) q)
      exact va_alen hx hb hE.1 hP q0 0 he (ty := .int) rfl rfl hd kk
    · obtain ⟨q0, he⟩ := pl_at hL hlv (cel_102 (g := g) q)
      exact va_alen hx hb hE.1 hP q0 1 he (ty := .char) rfl rfl hd kk
    · obtain ⟨q0, he⟩ := pl_at hL hlv (cel_103 (g := g) q)
      exact va_alen hx hb hE.1 hP q0 2 he (ty := .object RX5) rfl rfl hd kk
    · obtain ⟨q0, he⟩ := pl_at hL hlv (cel_104 (g := g) q)
      exact va_alen hx hb hE.1 hP q0 3 he (ty := .object "java/lang/Object") rfl rfl hd kk
  · rcases h7 a (by omega) with ⟨q, -⟩ | ⟨-, n, hn, rfl, e1, e2⟩ | ⟨q, -⟩ | ⟨q, -⟩
    · omega
    · exact va_tlen hx hb ((hH.2.2.2.2.2.2.1).1 n hn).2.2.2 h6 (by rw [e1]; rfl) hd kk
    · omega
    · omega
  · rcases h7 a (by omega) with ⟨q, -⟩ | ⟨q, -⟩ | ⟨q, -⟩ | ⟨-, rfl, e1⟩
    · omega
    · omega
    · omega
    · exact va_tlen hx hb hH.2.2.2.1 h6 (by rw [e1]) hd kk
theorem cel_s101 {σ : PS} {a j : Nat} {x : Int32} (hk : zK σ a = 101) : cel g (stI σ a j x) a = .inl (g 2, zL σ a, .inl (upd (zI σ a) j x)) := by
  have e : zI (stI σ a j x) a = upd (zI σ a) j x := by funext b; simp [zI, stI, upd]
  rw [cel_101 (show zK (stI σ a j x) a = 101 from hk), e]
  rfl
theorem cel_s102 {σ : PS} {a j : Nat} {x : Int32} (hk : zK σ a = 102) : cel g (stI σ a j x) a = .inl (g 3, zL σ a, .inl (upd (zI σ a) j x)) := by
  have e : zI (stI σ a j x) a = upd (zI σ a) j x := by funext b; simp [zI, stI, upd]
  rw [cel_102 (show zK (stI σ a j x) a = 102 from hk), e]
  rfl
theorem cel_s103 {σ : PS} {a j : Nat} {x : Option Nat} (hk : zK σ a = 103) : cel g (stP σ a j x) a = .inl (g 4, zL σ a, .inr (.inr (.inr (.inr (va_up (zP σ a) j x))))) := by
  have e : zP (stP σ a j x) a = va_up (zP σ a) j x := by funext b; simp [zP, stP, va_up]
  rw [cel_103 (show zK (stP σ a j x) a = 103 from hk), e]
  rfl
theorem cel_s104 {σ : PS} {a j : Nat} {x : Option Nat} (hk : zK σ a = 104) : cel g (stP σ a j x) a = .inl (g 5, zL σ a, .inr (.inr (.inr (.inr (va_up (zP σ a) j x))))) := by
  have e : zP (stP σ a j x) a = va_up (zP σ a) j x := by funext b; simp [zP, stP, va_up]
  rw [cel_104 (show zK (stP σ a j x) a = 104 from hk), e]
  rfl
theorem v_iast (X : Cx p l s m args meth c D g C S k σ0) {pc a : Nat} {j x : Int32} {lf : LV} {r : List Value} {σ : PS} (hd : decode (mB k) pc = .ok (.iastore, 1)) (hk : zK σ a = 101) (h0 : ¬ j < 0) (hj : j.toNatClampNeg < zL σ a)
    (h : VV p l e s m args below meth c D g C S k σ0 Q (pc + 1) lf r (stI σ a j.toNatClampNeg x)) : VV p l e s m args below meth c D g C S k σ0 Q pc lf (.int x :: .int j :: .ref a :: r) σ := by
  have X0 := X
  obtain ⟨⟨hx, hb, hml, hown, hts⟩, -, ⟨hE, hH, hsz, -⟩, -⟩ := X
  intro H locs ls h1 h2 h3 h4 h5 h6 h7
  obtain ⟨Ls, hL, hP, hD⟩ := h5
  have hlv : live (zK σ a) := live_a (by omega)
  obtain ⟨q0, hq⟩ := pl_at (g := g) hL hlv rfl
  have he : (va_pl Ls (cel g σ))[q0]? = some (a, .inl (g 2, zL σ a, .inl (zI σ a))) := by rw [hq, cel_101 hk]
  exact va_iast hx hb hE.1 hP hD (S_self h6) q0 0 he rfl (in_of h0 hj) hd (fun H1 locs1 hP1 hD1 hS1 => VV.put X0 h h1 h2 h3 h4 h6 (c_stI h7 (by omega)) hL hD hlv hq rfl rfl rfl
    (cel_up (cel_s101 hk) o_stI) hP1 hD1 hS1)
theorem v_cast (X : Cx p l s m args meth c D g C S k σ0) {pc a : Nat} {j x : Int32} {lf : LV} {r : List Value} {σ : PS} (hd : decode (mB k) pc = .ok (.castore, 1)) (hk : zK σ a = 102) (h0 : ¬ j < 0) (hj : j.toNatClampNeg < zL σ a)
    (h : VV p l e s m args below meth c D g C S k σ0 Q (pc + 1) lf r (stI σ a j.toNatClampNeg (vp_nar .char x))) : VV p l e s m args below meth c D g C S k σ0 Q pc lf (.int x :: .int j :: .ref a :: r) σ := by
  have X0 := X
  obtain ⟨⟨hx, hb, hml, hown, hts⟩, -, ⟨hE, hH, hsz, -⟩, -⟩ := X
  intro H locs ls h1 h2 h3 h4 h5 h6 h7
  obtain ⟨Ls, hL, hP, hD⟩ := h5
  have hlv : live (zK σ a) := live_a (by omega)
  obtain ⟨q0, hq⟩ := pl_at (g := g) hL hlv rfl
  have he : (va_pl Ls (cel g σ))[q0]? = some (a, .inl (g 3, zL σ a, .inl (zI σ a))) := by rw [hq, cel_102 hk]
  exact va_cast hx hb hE.1 hP hD (S_self h6) q0 1 he rfl (in_of h0 hj) hd (fun H1 locs1 hP1 hD1 hS1 => VV.put X0 h h1 h2 h3 h4 h6 (c_stI h7 (by omega)) hL hD hlv hq rfl rfl rfl
    (cel_up (cel_s102 hk) o_stI) hP1 hD1 hS1)
theorem okP_8 {σ : PS} {y : Nat} (h : okP σ (some y) = true) : ∃ cI, cI ≤ 8 ∧ zK σ y = cI + 1 := by
  simp only [okP, Bool.and_eq_true, decide_eq_true_eq] at h
  exact ⟨zK σ y - 1, by omega, by omega⟩
theorem v_aast (X : Cx p l s m args meth c D g C S k σ0) {pc a y : Nat} {j : Int32} {lf : LV} {r : List Value} {σ : PS} (hd : decode (mB k) pc = .ok (.aastore, 1)) (hk : (zK σ a = 103 ∧ zK σ y = 7) ∨ (zK σ a = 104 ∧ okP σ (some y) = true)) (h0 : ¬ j < 0) (hj : j.toNatClampNeg < zL σ a)
    (h : VV p l e s m args below meth c D g C S k σ0 Q (pc + 1) lf r (stP σ a j.toNatClampNeg (some y))) : VV p l e s m args below meth c D g C S k σ0 Q pc lf (.ref y :: .int j :: .ref a :: r) σ := by
  have X0 := X
  obtain ⟨⟨hx, hb, hml, hown, hts⟩, -, ⟨hE, hH, hsz, -⟩, -⟩ := X
  intro H locs ls h1 h2 h3 h4 h5 h6 h7
  obtain ⟨Ls, hL, hP, hD⟩ := h5
  rcases hk with ⟨hk, hy⟩ | ⟨hk, hy⟩
  · have hlv : live (zK σ a) := live_a (by omega)
    obtain ⟨q0, hq⟩ := pl_at (g := g) hL hlv rfl
    have he : (va_pl Ls (cel g σ))[q0]? = some (a, .inl (g 4, zL σ a, .inr (.inr (.inr (.inr (zP σ a)))))) := by rw [hq, cel_103 hk]
    obtain ⟨qk, hv⟩ := pl_at hL (live_8 (cI := 6) (by omega) hy) (cel_obj (g := g) (c := 6) (by omega) hy)
    exact va_astq hx hb hE.1 hP hD (S_self h6) q0 2 qk 6 (r := (RX5, TX5, 2)) he rfl hv rfl (in_of h0 hj) hd (fun H1 locs1 hP1 hD1 hS1 => VV.put X0 h h1 h2 h3 h4 h6 (c_stP h7 (by omega)) hL hD hlv hq rfl rfl rfl
      (cel_up (cel_s103 hk) o_stP) hP1 hD1 hS1)
  · have hlv : live (zK σ a) := live_a (by omega)
    obtain ⟨q0, hq⟩ := pl_at (g := g) hL hlv rfl
    have he : (va_pl Ls (cel g σ))[q0]? = some (a, .inl (g 5, zL σ a, .inr (.inr (.inr (.inr (zP σ a)))))) := by rw [hq, cel_104 hk]
    obtain ⟨cI, hc, hcy⟩ := okP_8 hy
    obtain ⟨qk, hv⟩ := pl_at hL (live_8 hc hcy) (cel_obj (g := g) hc hcy)
    obtain ⟨c1, -⟩ := cl_ok cI hc
    exact va_astqO hx hb hE.1 hP hD (S_self h6) q0 3 qk cI he rfl (hE.2.2.2.1 cI hc) hv c1 (in_of h0 hj) hd (fun H1 locs1 hP1 hD1 hS1 => VV.put X0 h h1 h2 h3 h4 h6 (c_stP h7 (by omega)) hL hD hlv hq rfl rfl rfl
      (cel_up (cel_s104 hk) o_stP) hP1 hD1 hS1)
/-! what is new -/
theorem VV.new (X : Cx p l s m args meth c D g C S k σ0) {pc' N : Nat} {lf : LV} {st : List Value} {σ τ : PS} {H H1 : Heap} {locs : List Loc} {ls : Array Slot} (h : VV p l e s m args below meth c D g C S k σ0 Q pc' lf st τ)
    (h1 : lsR ls lf) (h2 : lf.length = mL k) (h3 : H.size = zN σ) (h4 : zS σ0 ≤ zS σ ∧ zN σ ≤ C ∧ zS σ ≤ S) (hC : zN σ + 1 ≤ C) (hSl : zS σ + N ≤ S) (h5 : Pl D g (Ar σ0) σ H) (h6 : va_S (Ar σ0) s.heap H locs) (h7 : cOK g τ)
    (e1 : zN τ = zN σ + 1) (e2 : zS τ = zS σ + N) (ho : ∀ b, b ≠ zN σ → zK τ b = zK σ b ∧ zL τ b = zL σ b ∧ zI τ b = zI σ b ∧ zP τ b = zP σ b) (hlv : live (zK τ (zN σ)))
    (z1 : H1.size = zN σ + 1) (o1 : ∀ q, q < zN σ → H1[q]? = H[q]?) (hat : va_at D vwCl (zN σ, cel g τ (zN σ)) H1) :
    W p l e (rmK C S k σ0) s m args below meth c H1 locs (zN σ - zN σ0 + 1) (zS σ - zS σ0 + N) Q (F0 m pc' ls st) := by
  obtain ⟨Ls, hL, hP, hD⟩ := h5
  have hs := X.2.2.1.2.2.1
  have hle := h6.1
  have hfr : zN σ ∉ Ls := va_pl_fresh (X := []) hP (Nat.le_of_eq h3)
  have hkp : ∀ (k : Nat) (x : Nat × va_E), (va_pl Ls (cel g σ))[k]? = some x → H1[x.1]? = H[x.1]? := fun k x hx => o1 x.1 (by rw [← h3]; exact (hP k x hx).lt)
  have hA : Ar σ0 (zN σ) := Or.inr (by omega)
  have hP1 : va_P D vwCl (va_pl Ls (cel g σ) ++ [(zN σ, cel g τ (zN σ))]) H1 := (hP.kept hkp).app (fun k x hx => by
    have hz : k < 1 := (List.getElem?_eq_some_iff.mp hx).1
    rw [show k = 0 by omega] at hx
    cases hx
    exact hat)
  have hD1 : va_D (Ar σ0) (va_pl Ls (cel g σ) ++ [(zN σ, cel g τ (zN σ))]) := hD.push hP h3.symm hA
  rw [va_pl_push hfr, va_pl_congr (cel_up rfl ho)] at hP1 hD1
  have hS : va_S (Ar σ0) s.heap H1 locs := ⟨by omega, fun q g1 g2 => (o1 q (by omega)).trans (h6.2.1 q g1 g2), h6.2.2⟩
  have kk := h H1 locs ls h1 h2 (by rw [z1, e1]) ⟨by omega, by omega, by omega⟩ ⟨Ls ++ [zN σ], fun b => by
    rw [List.mem_append, List.mem_singleton]
    by_cases hb : b = zN σ
    · subst hb
      exact ⟨fun _ => hlv, fun _ => Or.inr rfl⟩
    · rw [(ho b hb).1, ← hL b]
      exact ⟨fun q => q.resolve_right hb, Or.inl⟩, hP1, hD1⟩ hS h7
  rw [e1, e2, show zN σ + 1 - zN σ0 = zN σ - zN σ0 + 1 by omega, show zS σ + N - zS σ0 = zS σ - zS σ0 + N by omega] at kk
  exact kk
theorem v_new (X : Cx p l s m args meth c D g C S k σ0) {pc i cI : Nat} {lf : LV} {r : List Value} {σ : PS} (hd : decode (mB k) pc = .ok (.new i, 3)) (hk : kR (mO k) i = some cI) (hc : cI ≤ 8) (hC : zN σ + 1 ≤ C) (hS : zS σ + fN cI ≤ S)
    (h : VV p l e s m args below meth c D g C S k σ0 Q (pc + 3) lf (.ref (zN σ) :: r) (alO σ (cI + 1) (fN cI))) : VV p l e s m args below meth c D g C S k σ0 Q pc lf r σ := by
  have X0 := X
  obtain ⟨⟨hx, hb, hml, hown, hts⟩, -, ⟨hE, hH, hsz, -⟩, -⟩ := X
  intro H locs ls h1 h2 h3 h4 h5 h6 h7
  obtain ⟨c1, c2, c3, c4, c5, -, c7, -⟩ := cl_ok cI hc
  have hKn := hE.1.1 cI _ c1
  have hle := h6.1
  refine W.newcK hx hb hown (hts _ (kR_ok _ _ _ hk)) (hts _ c3) (hts _ c4) rfl hd (by show zN σ - zN σ0 + 1 ≤ C - zN σ0; omega) (by show zS σ - zS σ0 + fN cI ≤ S - zS σ0; omega) hKn.2.1 h3 fun H1 kC hkC e1 z1 o1 => ?_
  have kz : zK (alO σ (cI + 1) (fN cI)) (zN σ) = cI + 1 := by simp [zK, alO]
  refine VV.new X0 h h1 h2 h3 h4 hC hS h5 h6 (c_alO h7 (by omega)) rfl rfl o_alO (by rw [kz]; exact live_8 hc rfl) z1 o1 ?_
  rw [cel_obj hc kz]
  refine ⟨_, c1, (u_born (clY cI) hts c2 hKn hkC e1 c5).to (fun j hj => ?_)⟩
  unfold vp_V
  rw [List.getD_eq_getElem?_getD, flds_get _ _ hj]
  have ez : zI (alO σ (cI + 1) (fN cI)) (zN σ) j = 0 := by simp [zI, alO]
  have ep : zP (alO σ (cI + 1) (fN cI)) (zN σ) j = none := by simp [zP, alO]
  rcases (c7 j hj).1 with ⟨q1, q2⟩ | ⟨q1, -, q2⟩ | ⟨q1, -, q2⟩
  · rw [q1, ep]
    cases ht : clY cI j <;> simp [ht, FieldType.isReference] at q2 <;> rfl
  · rw [q1, q2, ez]
    rfl
  · rw [q1, q2, ez]
    rfl
theorem v_newa (X : Cx p l s m args meth c D g C S k σ0) {pc : Nat} {n : Int32} {lf : LV} {r : List Value} {σ : PS} (ch : Bool) (hd : decode (mB k) pc = .ok (.newarray (if ch then .char else .int), 2)) (hn : ¬ n < 0) (hN : n.toNatClampNeg ≤ 100000) (hC : zN σ + 1 ≤ C) (hS : zS σ + n.toNatClampNeg ≤ S)
    (h : VV p l e s m args below meth c D g C S k σ0 Q (pc + 2) lf (.ref (zN σ) :: r) (alA σ (if ch then 102 else 101) n.toNatClampNeg)) : VV p l e s m args below meth c D g C S k σ0 Q pc lf (.int n :: r) σ := by
  have X0 := X
  obtain ⟨⟨hx, hb, hml, hown, hts⟩, -, ⟨hE, hH, hsz, -⟩, -⟩ := X
  intro H locs ls h1 h2 h3 h4 h5 h6 h7
  have hle := h6.1
  cases ch with
  | true =>
    have h : VV p l e s m args below meth c D g C S k σ0 Q (pc + 2) lf (.ref (zN σ) :: r) (alA σ 102 n.toNatClampNeg) := h
    refine va_newaK hx hb (atype := .char) (hts _ gs_char) rfl hd rfl hn rfl (by show n.toNatClampNeg * 2 ≤ 536870912; omega) (by show zN σ - zN σ0 + 1 ≤ C - zN σ0; omega) (by show zS σ - zS σ0 + n.toNatClampNeg ≤ S - zS σ0; omega) h3 fun H1 cA e1 z1 o1 hAr hNm => ?_
    have kz : zK (alA σ 102 n.toNatClampNeg) (zN σ) = 102 := by simp [zK, alA]
    have hcA : cA = g 3 := Option.some.inj (hNm.symm.trans ((hE.1.2 1 _ rfl).2))
    refine VV.new X0 h h1 h2 h3 h4 hC hS h5 h6 (c_alA h7 (by omega)) rfl rfl o_alA (by rw [kz]; exact live_a (by omega)) z1 o1 ?_
    show va_at D vwCl (zN σ, cel g (alA σ 102 n.toNatClampNeg) (zN σ)) H1
    rw [cel_102 kz]
    show H1[zN σ]? = some (vp_cell (g 3) _)
    rw [e1, hcA, vp_cell_i]
    have el : zL (alA σ 102 n.toNatClampNeg) (zN σ) = n.toNatClampNeg := by simp [zL, alA]
    have ei : zI (alA σ 102 n.toNatClampNeg) (zN σ) = fun _ => 0 := by funext j; simp [zI, alA]
    rw [el, ei]
    rfl
  | false =>
    have h : VV p l e s m args below meth c D g C S k σ0 Q (pc + 2) lf (.ref (zN σ) :: r) (alA σ 101 n.toNatClampNeg) := h
    refine va_newaK hx hb (atype := .int) (hts _ gs_int) rfl hd rfl hn rfl (by show n.toNatClampNeg * 4 ≤ 536870912; omega) (by show zN σ - zN σ0 + 1 ≤ C - zN σ0; omega) (by show zS σ - zS σ0 + n.toNatClampNeg ≤ S - zS σ0; omega) h3 fun H1 cA e1 z1 o1 hAr hNm => ?_
    have kz : zK (alA σ 101 n.toNatClampNeg) (zN σ) = 101 := by simp [zK, alA]
    have hcA : cA = g 2 := Option.some.inj (hNm.symm.trans ((hE.1.2 0 _ rfl).2))
    refine VV.new X0 h h1 h2 h3 h4 hC hS h5 h6 (c_alA h7 (by omega)) rfl rfl o_alA (by rw [kz]; exact live_a (by omega)) z1 o1 ?_
    show va_at D vwCl (zN σ, cel g (alA σ 101 n.toNatClampNeg) (zN σ)) H1
    rw [cel_101 kz]
    show H1[zN σ]? = some (vp_cell (g 2) _)
    rw [e1, hcA, vp_cell_i]
    have el : zL (alA σ 101 n.toNatClampNeg) (zN σ) = n.toNatClampNeg := by simp [zL, alA]
    have ei : zI (alA σ 101 n.toNatClampNeg) (zN σ) = fun _ => 0 := by funext j; simp [zI, alA]
    rw [el, ei]
    rfl
theorem v_anew (X : Cx p l s m args meth c D g C S k σ0) {pc i cI : Nat} {n : Int32} {lf : LV} {r : List Value} {σ : PS} (hd : decode (mB k) pc = .ok (.anewarray i, 3)) (hk : kR (mO k) i = some cI) (hc : cI = 6 ∨ cI = 104) (hn : ¬ n < 0) (hN : n.toNatClampNeg ≤ 100000) (hC : zN σ + 1 ≤ C) (hS : zS σ + n.toNatClampNeg ≤ S)
    (h : VV p l e s m args below meth c D g C S k σ0 Q (pc + 3) lf (.ref (zN σ) :: r) (alA σ (if cI = 6 then 103 else 104) n.toNatClampNeg)) : VV p l e s m args below meth c D g C S k σ0 Q pc lf (.int n :: r) σ := by
  have X0 := X
  obtain ⟨⟨hx, hb, hml, hown, hts⟩, -, ⟨hE, hH, hsz, -⟩, -⟩ := X
  intro H locs ls h1 h2 h3 h4 h5 h6 h7
  have hle := h6.1
  have hlink := hts _ (kR_ok _ _ _ hk)
  rcases hc with rfl | rfl
  · refine W.anew hx hb hown hlink (hE.2.2.2.2.2.1.use) rfl hd rfl hn (by omega) (by show zN σ - zN σ0 + 1 ≤ C - zN σ0; omega) (by show zS σ - zS σ0 + n.toNatClampNeg ≤ S - zS σ0; omega) fun cA kA comp a1 a2 a3 a4 => ?_
    have kz : zK (alA σ 103 n.toNatClampNeg) (zN σ) = 103 := by simp [zK, alA]
    have hcA : cA = g 4 := by
      obtain ⟨_, _, _, _, _, w4⟩ := (hE.1.2 2 _ rfl).2
      exact Option.some.inj (a1.symm.trans w4)
    rw [h3]
    refine VV.new X0 h h1 h2 h3 h4 hC hS h5 h6 (c_alA h7 (by decide)) rfl rfl o_alA (by show live (zK (alA σ 103 n.toNatClampNeg) (zN σ)); rw [kz]; exact live_a (by omega)) (by simp [h3]) (fun q hq => by rw [Array.getElem?_push, if_neg (by omega)]) ?_
    show va_at D vwCl (zN σ, cel g (alA σ 103 n.toNatClampNeg) (zN σ)) _
    rw [cel_103 kz]
    show (H.push _)[zN σ]? = some (vp_cell (g 4) _)
    rw [← h3, Array.getElem?_push_size, arrV_new, hcA, vp_cell_q]
    have el : zL (alA σ 103 n.toNatClampNeg) H.size = n.toNatClampNeg := by rw [h3]; simp [zL, alA]
    have ei : zP (alA σ 103 n.toNatClampNeg) H.size = fun _ => none := by rw [h3]; funext j; simp [zP, alA]
    rw [el, ei]
    rfl
  · refine W.anew hx hb hown hlink (hE.2.2.2.2.1.use) rfl hd rfl hn (by omega) (by show zN σ - zN σ0 + 1 ≤ C - zN σ0; omega) (by show zS σ - zS σ0 + n.toNatClampNeg ≤ S - zS σ0; omega) fun cA kA comp a1 a2 a3 a4 => ?_
    have kz : zK (alA σ 104 n.toNatClampNeg) (zN σ) = 104 := by simp [zK, alA]
    have hcA : cA = g 5 := by
      obtain ⟨_, _, _, _, _, w4⟩ := (hE.1.2 3 _ rfl).2
      exact Option.some.inj (a1.symm.trans w4)
    rw [h3]
    refine VV.new X0 h h1 h2 h3 h4 hC hS h5 h6 (c_alA h7 (by decide)) rfl rfl o_alA (by show live (zK (alA σ 104 n.toNatClampNeg) (zN σ)); rw [kz]; exact live_a (by omega)) (by simp [h3]) (fun q hq => by rw [Array.getElem?_push, if_neg (by omega)]) ?_
    show va_at D vwCl (zN σ, cel g (alA σ 104 n.toNatClampNeg) (zN σ)) _
    rw [cel_104 kz]
    show (H.push _)[zN σ]? = some (vp_cell (g 5) _)
    rw [← h3, Array.getElem?_push_size, arrV_new, hcA, vp_cell_q]
    have el : zL (alA σ 104 n.toNatClampNeg) H.size = n.toNatClampNeg := by rw [h3]; simp [zL, alA]
    have ei : zP (alA σ 104 n.toNatClampNeg) H.size = fun _ => none := by rw [h3]; funext j; simp [zP, alA]
    rw [el, ei]
    rfl
end Snd
