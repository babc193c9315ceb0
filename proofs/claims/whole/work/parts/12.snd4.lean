section Cal2
variable {p : Program} {l : Launch} {e : Env} {s : State} {m : MethodId} {args : Array Value} {below : List Frame} {meth : Method} {c : Code} {Q : State → Prop}
variable {D : va_G} {g : Nat → Nat} {C S k : Nat} {σ0 : PS}
theorem call_th {R : Room} {H : Heap} {locs : List Loc} {cells slots mc ms mc' ms' pc j : Nat} {ls : Array Slot} {st0 rest : List Value} {free : Addr → Prop} {σ τ : PS} {as : Array Value}
    (hr : vx_Run p l e R s m args below meth c H locs cells slots mc ms (F0 m pc ls st0) rest (QcK D g C S σ (Sum.inr j) τ as) (XcK D g σ (Sum.inr j) τ) free) (hS : va_S (Ar σ0) s.heap H locs) (hA : ∀ q, Ar σ q → Ar σ0 q) (hf : ∀ q, free q → Ar σ0 q)
    (hlocks : meth.locks = false) (hout : ∀ x ∈ c.exceptionTable.toList, False) (hc : cells + mc ≤ mc') (hs : slots + ms ≤ ms') :
    W p l e R s m args below meth c H locs cells slots (vx_MQ below (QcK D g C S σ0 (Sum.inr j) τ) (XcK D g σ0 (Sum.inr j) τ) args s mc' ms' (Ar σ0)) (F0 m pc ls st0) := by
  intro T hT X
  rcases hr T hT X with ⟨v', st₀, t, T', L, h0, X', hL, e1, e2, ⟨⟨v1, r1, -⟩, -⟩, st⟩ | ⟨q, st₀, t, T', L, E, ce, h0, X', hL, e1, e2, ⟨j', r1, rfl, y1, y2, y3, hF⟩, hce, hcv, hcl, st⟩
  · cases r1
  · cases r1
    obtain ⟨k1, k2, k3⟩ := vx_keep h0 e1 hS (fun q _ h => hA q h) hf hL hF
    have hx : vx_W p l e R s m args below meth c T'.heap (locs ++ L) (cells + mc) (slots + ms) (vx_MQ below (QcK D g C S σ0 (Sum.inr j) τ) (XcK D g σ0 (Sum.inr j) τ) args s mc' ms' (Ar σ0)) (F0 m pc ls rest) q :=
      vx_out (fun x hx => absurd hx (fun q => hout x q)) hlocks (by rw [e1]; exact hce) hcv hcl (fun t2 ht2 _ => ⟨j, rfl, rfl, by rw [ht2, e1]; exact y1, by rw [ht2, e1]; exact y2.weak hA, y3, k3.F ht2⟩) k3.2.2 hc hs
    obtain ⟨t2, a1, b1⟩ := hx T' rfl X'
    exact ⟨t2, st.trans a1, b1⟩
theorem rm_ok {k k2 : Nat} (h : rmOK k k2 = true) {σ σ0 : PS} : (rmK C S k2 σ).frames + 1 ≤ (rmK C S k σ0).frames ∧ 8 + (mL k2 + 11) + (rmK C S k2 σ).locals ≤ (rmK C S k σ0).locals := by
  unfold rmOK at h
  simp only [Bool.and_eq_true, decide_eq_true_eq] at h
  exact h
theorem XcK_no {σ τ : PS} {v : Option Value} : ∀ E st t, ¬ XcK D g σ (Sum.inl v) τ E st t := by
  rintro E st t ⟨j, h, -⟩
  cases h
theorem mI_none : ∀ k, k < 172 → mI k = true → mR k = none := by decide +kernel
theorem st_split {st as : List Value} {n : Nat} (h : (st.take n).reverse = as) : st = as.reverse ++ st.drop n := by
  rw [← h, List.reverse_reverse, List.take_append_drop]
theorem as_len {st as : List Value} {n : Nat} (h : (st.take n).reverse = as) (hn : n ≤ st.length) : as.length = n := by
  rw [← h, List.length_reverse, List.length_take]
  omega
theorem rm_sum {r : List Value} (h : r.length ≤ 4) : 2 * (F0 m 0 #[] []).monitorRoom + (r.map fun v => v.category).sum ≤ 8 := by
  have := len_sum r
  show 2 * 0 + _ ≤ 8
  omega
/-- the receiver -/
theorem rcv_at (X : Cx p l s m args meth c D g C S k σ0) {k2 b : Nat} {σ : PS} {H : Heap} {locs : List Loc} (hk2 : k2 < 172) (h5 : Pl D g (Ar σ0) σ H) (h6 : va_S (Ar σ0) s.heap H locs) (h7 : cOK g σ) (hr : (mO k2 ≤ 8 ∧ zK σ b = mO k2 + 1) ∨ (mO k2 = 9 ∧ zK σ b = 1000)) :
    ∃ cellB : Cell, H[b]? = some cellB ∧ cellB.vm.isStatics = false ∧ s.vm.findClass (mY k2).cls = some cellB.cls := by
  obtain ⟨-, -, ⟨hE, hH, hsz, -⟩, -⟩ := X
  obtain ⟨hcls, -⟩ := mY_ok k2 hk2
  rw [hcls]
  rcases hr with ⟨ho, hb⟩ | ⟨ho, hb⟩
  · obtain ⟨Ls, hL, hP, hD⟩ := h5
    obtain ⟨q0, he⟩ := pl_at hL (live_8 ho hb) (cel_obj (g := g) ho hb)
    obtain ⟨c1, -⟩ := cl_ok _ ho
    rw [ownS_8 _ ho]
    exact va_recv hE.1 hP c1 he
  · rcases h7 b (by omega) with ⟨-, n, hn, rfl, -⟩ | ⟨q, -⟩ | ⟨q, -⟩ | ⟨q, -⟩
    · rw [ho]
      exact vk_recv (i := n) (adK := fun j => g (100 + j)) hH.2.2.2.2.2.2.1 hn h6
    · omega
    · omega
    · omega
theorem rcv_0 {σ : PS} {k2 : Nat} {as : List Value} (h : rcv σ 0 k2 as = true) : ∃ b As, as = .ref b :: As ∧ mS k2 = false ∧ mI k2 = false ∧ ((mO k2 ≤ 8 ∧ zK σ b = mO k2 + 1) ∨ (mO k2 = 9 ∧ zK σ b = 1000)) := by
  cases as with
  | nil => exact absurd h (by simp [rcv])
  | cons v As =>
    cases v with
    | ref b =>
      have h : (!mS k2 && !mI k2 && ((decide (mO k2 ≤ 8) && zK σ b == mO k2 + 1) || (mO k2 == 9 && zK σ b == 1000))) = true := h
      simp only [Bool.and_eq_true, Bool.or_eq_true, Bool.not_eq_true', decide_eq_true_eq, beq_iff_eq] at h
      exact ⟨b, As, rfl, h.1.1, h.1.2, h.2⟩
    | _ => exact absurd h (by simp [rcv])
theorem rcv_1 {σ : PS} {k2 : Nat} {as : List Value} (h : rcv σ 1 k2 as = true) : ∃ b As, as = .ref b :: As ∧ mS k2 = false ∧ mI k2 = true := by
  cases as with
  | nil => exact absurd h (by simp [rcv])
  | cons v As =>
    cases v with
    | ref b =>
      have h : (!mS k2 && mI k2) = true := h
      simp only [Bool.and_eq_true, Bool.not_eq_true'] at h
      exact ⟨b, As, rfl, h.1, h.2⟩
    | _ => exact absurd h (by simp [rcv])
theorem rcv_2 {σ : PS} {k2 : Nat} {as : List Value} (h : rcv σ 2 k2 as = true) : mS k2 = true := h
theorem nM_no : ∀ k2, k2 < 172 → 81 ≤ k2 → k2 ≤ 86 → ∀ q ∈ nM, q.2.2 ≠ mY k2 := by decide +kernel
/-- a call of a method of the table that returns -/
theorem v_call (X : Cx p l s m args meth c D g C S k σ0) {pc i k2 op : Nat} {ins : Instr} {lf : LV} {st : List Value} {v : Option Value} {σ τ : PS} (hop : (op = 0 ∧ ins = .invokevirtual i) ∨ (op = 1 ∧ ins = .invokespecial i) ∨ (op = 2 ∧ ins = .invokestatic i)) (hd : decode (mB k) pc = .ok (ins, 3))
    (hcR : cR (mO k) i = some k2) (hk2 : ¬ 1000 ≤ k2) (hrm : rmOK k k2 = true) (hA : mA k2 ≤ st.length) (hrest : (st.drop (mA k2)).length ≤ 4) (hrc : rcv σ op k2 (st.take (mA k2)).reverse = true)
    (hC : Ctr l D g C S k2 (st.take (mA k2)).reverse σ (Sum.inl v) τ) (h : VV p l e s m args below meth c D g C S k σ0 Q (pc + 3) lf (v.toList ++ st.drop (mA k2)) τ) : VV p l e s m args below meth c D g C S k σ0 Q pc lf st σ := by
  have hf := cR_ok _ _ _ hcR
  have hlk : k2 < 172 := by
    rcases hf with q | q
    · exact q.1
    · exact absurd q.1 hk2
  have hlink : Cond.methodLink (ownS (mO k)) i (mY k2) ∈ gW ∨ ((ownS (mO k), i, mY k2) ∈ nM ∧ (mI k2 = true ∨ mS k2 = true)) := by
    rcases hf with q | q
    · exact q.2
    · exact absurd q.1 hk2
  obtain ⟨hcls, hpl, hmh, hpar, hin, hA1, hO17⟩ := mY_ok k2 hlk
  have hgn := gn_all k2 hlk
  have hini : Cond.initialized (mY k2).cls ∈ gW := by rw [hcls]; exact gi_all _ hO17 (mO_11 k2 hlk)
  intro H locs ls h1 h2 h3 h4 h5 h6 h7
  have hM : Met l (mY k2) (wsK k2) (rmK C S k2 σ) (va_Pc (st.take (mA k2)).reverse (PreK D g C S σ)) (QcK D g C S σ (Sum.inl v) τ) (C - zN σ) (S - zS σ) (Ar σ) := met_of hC XcK_no
  have hpre := pre_K X (as := (st.take (mA k2)).reverse) h3 h4 h5 h6 h7
  have hsz := X.2.2.1.2.2.1
  have hle := h6.1
  have hls : ls.size = mL k := h1.1.trans h2
  have hroom : zN σ - zN σ0 + (C - zN σ) ≤ (rmK C S k σ0).cells ∧ zS σ - zS σ0 + (S - zS σ) ≤ (rmK C S k σ0).slots := ⟨by show _ ≤ C - zN σ0; omega, by show _ ≤ S - zS σ0; omega⟩
  have hS8 : 2 * (F0 m pc ls st).monitorRoom + ((st.drop (mA k2)).map fun v => v.category).sum ≤ 8 := by
    have := len_sum (st.drop (mA k2))
    show 2 * 0 + _ ≤ 8
    omega
  have hts := X.1.2.2.2.2
  have hE := X.2.2.1.1
  generalize has : (st.take (mA k2)).reverse = as at *
  have hst := st_split has
  have hal := as_len has hA
  refine call_on X h h1 h2 h3 h4 h5 h6 (as := as.toArray) ?_
  rcases hop with ⟨rfl, rfl⟩ | ⟨rfl, rfl⟩ | ⟨rfl, rfl⟩
  · obtain ⟨b, As, rfl, hms, hmi, hrb⟩ := rcv_0 hrc
    have hst2 : st = As.reverse ++ .ref b :: st.drop (mA k2) := hst.trans (by rw [List.reverse_cons, List.append_assoc]; rfl)
    rw [if_neg (by rw [hms]; decide)] at hgn
    have hsel := hgn.2.resolve_left (by rw [hmi]; decide)
    have hlk' := hlink.resolve_right (fun q => by
      rcases q.2 with w | w
      · rw [hmi] at w
        cases w
      · rw [hms] at w
        cases w)
    refine va_runV (As := As) (b := b) X.1 hM (cwV (mA k2 - 1) hts (gIn (fun w hw => ?_)) rfl rfl rfl ⟨rfl, hmh.1, hmh.2, by rw [hpar, hms]; rfl⟩ (rm_ok hrm)) ⟨fb_K, rcv_at X hlk h5 h6 h7 hrb, hpre⟩ rfl (by simp at hal; omega) hls hst2 hS8 hd hroom
    unfold wsV at hw
    rcases List.mem_append.mp hw with q | q
    · simp only [List.mem_cons, List.not_mem_nil, or_false] at q
      rcases q with rfl | rfl | rfl | rfl
      · exact hlk'
      · exact hgn.1
      · exact hsel
      · exact hini
    · exact wsK_in hlk w q
  · obtain ⟨b, As, rfl, hms, hmi⟩ := rcv_1 hrc
    have hst2 : st = As.reverse ++ .ref b :: st.drop (mA k2) := hst.trans (by rw [List.reverse_cons, List.append_assoc]; rfl)
    rw [if_neg (by rw [hms]; decide)] at hgn
    have hnm : (mY k2).name = "<init>" := by rw [hmi] at hin; exact of_decide_eq_true hin.symm
    have hret : wsK k2 = Cond.code (mY k2) (mB k2) (mL k2) none :: gW := by unfold wsK; rw [mI_none k2 hlk hmi]
    rcases hlink with q | ⟨q, -⟩
    · exact va_runI (As := As) (b := b) X.1 hM (cwI (mA k2 - 1) hts (gIn (wsK_in hlk)) hret rfl rfl (hts _ hini) (hts _ q) (hts _ hgn.1) hnm ⟨hmh.1, hmh.2, by rw [hpar, hms]; rfl⟩ (rm_ok hrm)) ⟨fb_K, hpre⟩ rfl (by simp at hal; omega) hls hst2 hS8 hd hroom
    · exact va_runIN (As := As) (b := b) X.1 hM ⟨va_cnB (mA k2 - 1) hts (gIn (wsK_in hlk)) hret rfl rfl (hE.2.2.1 (ownS (mO k), i, mY k2) q) (hts _ hini) ⟨hmh.1, hmh.2, by rw [hpar, hms]; rfl⟩ (rm_ok hrm), hnm, hts _ hgn.1⟩ ⟨fb_K, hpre⟩ rfl (by simp at hal; omega) hls hst2 hS8 hd hroom
  · have hms := rcv_2 hrc
    have hret : wsK k2 = Cond.code (mY k2) (mB k2) (mL k2) (mR k2) :: gW := rfl
    rw [if_pos hms] at hgn
    rcases hlink with q | ⟨q, -⟩
    · refine va_runS (As := as) X.1 hM (va_cwS (mA k2) hts (gIn (fun w hw => ?_)) hret rfl rfl ⟨hmh.1, hmh.2, by rw [hpar, hms]; rfl⟩ (rm_ok hrm)) ⟨fb_K, hpre⟩ rfl hal hls hst hS8 hd hroom
      unfold va_wsS at hw
      rcases List.mem_append.mp hw with q' | q'
      · simp only [List.mem_cons, List.not_mem_nil, or_false] at q'
        rcases q' with rfl | rfl | rfl
        · exact q
        · exact hgn
        · exact hini
      · exact wsK_in hlk w q'
    · have hnw : va_Nw (.methodLinkNest (ownS (mO k)) i (mY k2) RX6) s := hE.2.2.1 (ownS (mO k), i, mY k2) q
      have hcn : va_CN (rmK C S k σ0) s args (ownS (mO k)) i (mY k2) RX6 (mB k2) (mL k2) (mR k2) (wsK k2) (rmK C S k2 σ) (C - zN σ) (S - zS σ) (mA k2) := va_cnB (mA k2) hts (gIn (wsK_in hlk)) hret rfl rfl hnw (hts _ hini) ⟨hmh.1, hmh.2, by rw [hpar, hms]; rfl⟩ (rm_ok hrm)
      exact va_runSN (As := as) X.1 hM ⟨hcn, hts _ hgn, trivial⟩ ⟨fb_K, hpre⟩ rfl hal hls hst hS8 hd hroom
/-- .. that throws -/
theorem v_callT (X : Cx p l s m args meth c D g C S k σ0) {pc i k2 op j : Nat} {ins : Instr} {lf : LV} {st : List Value} {σ τ : PS} (hop : (op = 0 ∧ ins = .invokevirtual i) ∨ (op = 1 ∧ ins = .invokespecial i) ∨ (op = 2 ∧ ins = .invokestatic i)) (hd : decode (mB k) pc = .ok (ins, 3))
    (hcR : cR (mO k) i = some k2) (h81 : 81 ≤ k2 ∧ k2 ≤ 86) (hrm : rmOK k k2 = true) (hA : mA k2 ≤ st.length) (hrest : (st.drop (mA k2)).length ≤ 4) (hrc : rcv σ op k2 (st.take (mA k2)).reverse = true)
    (hC : Ctr l D g C S k2 (st.take (mA k2)).reverse σ (Sum.inr j) τ) : VV p l e s m args below meth c D g C S k σ0 (vx_MQ below (QcK D g C S σ0 (Sum.inr j) τ) (XcK D g σ0 (Sum.inr j) τ) args s (C - zN σ0) (S - zS σ0) (Ar σ0)) pc lf st σ := by
  have hf := cR_ok _ _ _ hcR
  have hk2 : ¬ 1000 ≤ k2 := by omega
  have hlk : k2 < 172 := by omega
  have hlink : Cond.methodLink (ownS (mO k)) i (mY k2) ∈ gW := by
    rcases hf with q | q
    · rcases q.2 with q | q
      · exact q
      · exact absurd rfl (nM_no k2 hlk h81.1 h81.2 _ q.1)
    · exact absurd q.1 hk2
  obtain ⟨hcls, hpl, hmh, hpar, hin, hA1, hO17⟩ := mY_ok k2 hlk
  have hgn := gn_all k2 hlk
  have hini : Cond.initialized (mY k2).cls ∈ gW := by rw [hcls]; exact gi_all _ hO17 (mO_11 k2 hlk)
  intro H locs ls h1 h2 h3 h4 h5 h6 h7
  have hpre := pre_K X (as := (st.take (mA k2)).reverse) h3 h4 h5 h6 h7
  have hsz := X.2.2.1.2.2.1
  have hle := h6.1
  have hls : ls.size = mL k := h1.1.trans h2
  have hroom : zN σ - zN σ0 + (C - zN σ) ≤ (rmK C S k σ0).cells ∧ zS σ - zS σ0 + (S - zS σ) ≤ (rmK C S k σ0).slots := ⟨by show _ ≤ C - zN σ0; omega, by show _ ≤ S - zS σ0; omega⟩
  have hS8 : 2 * (F0 m pc ls st).monitorRoom + ((st.drop (mA k2)).map fun v => v.category).sum ≤ 8 := by
    have := len_sum (st.drop (mA k2))
    show 2 * 0 + _ ≤ 8
    omega
  have hts := X.1.2.2.2.2
  have hM := hC
  unfold Ctr at hM
  have hAr := Ar_le h5 (fun q hq => Or.inr (by omega) : ∀ q, zN σ ≤ q → Ar σ0 q)
  generalize has : (st.take (mA k2)).reverse = as at *
  have hst := st_split has
  have hal := as_len has hA
  have hlocks := X.2.1.1
  have hout := X.2.1.2.2.2
  rcases hop with ⟨rfl, rfl⟩ | ⟨rfl, rfl⟩ | ⟨rfl, rfl⟩
  · obtain ⟨b, As, rfl, hms, hmi, hrb⟩ := rcv_0 hrc
    have hst2 : st = As.reverse ++ .ref b :: st.drop (mA k2) := hst.trans (by rw [List.reverse_cons, List.append_assoc]; rfl)
    rw [if_neg (by rw [hms]; decide)] at hgn
    have hsel := hgn.2.resolve_left (by rw [hmi]; decide)
    refine call_th (vx_runV (As := As) (b := b) X.1 hM (cwV (mA k2 - 1) hts (gIn (fun w hw => ?_)) rfl rfl rfl ⟨rfl, hmh.1, hmh.2, by rw [hpar, hms]; rfl⟩ (rm_ok hrm)) ⟨fb_K, rcv_at X hlk h5 h6 h7 hrb, hpre⟩ rfl (by simp at hal; omega) hls hst2 hS8 hd hroom) h6 hAr hAr hlocks hout hroom.1 hroom.2
    unfold wsV at hw
    rcases List.mem_append.mp hw with q | q
    · simp only [List.mem_cons, List.not_mem_nil, or_false] at q
      rcases q with rfl | rfl | rfl | rfl
      · exact hlink
      · exact hgn.1
      · exact hsel
      · exact hini
    · exact wsK_in hlk w q
  · obtain ⟨b, As, rfl, hms, hmi⟩ := rcv_1 hrc
    have : mI k2 = false := by
      rcases (show k2 = 81 ∨ k2 = 82 ∨ k2 = 83 ∨ k2 = 84 ∨ k2 = 85 ∨ k2 = 86 by omega) with rfl | rfl | rfl | rfl | rfl | rfl <;> rfl
    rw [this] at hmi
    cases hmi
  · have hms := rcv_2 hrc
    have hret : wsK k2 = Cond.code (mY k2) (mB k2) (mL k2) (mR k2) :: gW := rfl
    rw [if_pos hms] at hgn
    refine call_th (vx_runS (As := as) X.1 hM (va_cwS (mA k2) hts (gIn (fun w hw => ?_)) hret rfl rfl ⟨hmh.1, hmh.2, by rw [hpar, hms]; rfl⟩ (rm_ok hrm)) ⟨fb_K, hpre⟩ rfl hal hls hst hS8 hd hroom) h6 hAr hAr hlocks hout hroom.1 hroom.2
    unfold va_wsS at hw
    rcases List.mem_append.mp hw with q' | q'
    · simp only [List.mem_cons, List.not_mem_nil, or_false] at q'
      rcases q' with rfl | rfl | rfl
      · exact hlink
      · exact hgn
      · exact hini
    · exact wsK_in hlk w q'
end Cal2
