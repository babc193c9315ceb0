/-! the law's loop -/
theorem gW_in : ∀ w ∈ gW, w ∈ lw_tbl := fun w h => (List.mem_filter.mp h).1
theorem LJ.o {g : Nat → Nat} {h0 x mm n : Nat} {σ : PS} {s1 s2 : ST} {t : Int} (h : LJ g h0 σ x mm n s1 s2 t) : mm + 26 < zN σ ∧ ¬ Ar σ (mm + 26) ∧ h0 ≤ mm + 26 := by
  obtain ⟨-, -, -, h1, h2, h3, -⟩ := h
  refine ⟨by omega, fun q => ?_, by omega⟩
  rcases q with q | q
  · unfold live at q
    omega
  · omega
theorem LJ.s {g : Nat → Nat} {h0 x mm n : Nat} {σ : PS} {s1 s2 : ST} {t : Int} (h : LJ g h0 σ x mm n s1 s2 t) : 8 * h0 ≤ zS σ := h.2.2.2.2.2.2
theorem LJ_self {g : Nat → Nat} {h0 x mm n : Nat} {σ : PS} {s1 s2 : ST} {t : Int} (h : LJ g h0 σ x mm n s1 s2 t) : LJ g h0 σ x mm (n + 1) s1 s2 t :=
  LJ_bump (N' := zN σ) (S' := zS σ) h ⟨Nat.le_refl _, by omega⟩ ⟨Nat.le_refl _, by omega⟩
def LwK (p : Program) (l : Launch) (e : Env) (s : State) (m : MethodId) (below : List Frame) (meth : Method) (c : Code) (b : Nat) (D : va_G) (g : Nat → Nat) (gL x mm : Nat) (Q : State → Prop) (n i pc : Nat) : Prop :=
  ∀ (H : Heap) (locs : List Loc) (σ : PS) (st : ST) (t : Int) (ov : Int64) (ls : Array Slot) (v5 v6 : Option Value), LJ g s.heap.size σ x mm n st st t → LH D g gL s σ (mm + 26) ov H locs →
    lsR ls [some (.ref b), some (.ref x), some (.ref mm), some (.ref (mm + 26)), some (.int (nI i)), v5, v6] →
    W p l e room_1 s m #[Value.ref b] below meth c H locs (zN σ - s.heap.size) (zS σ - 8 * s.heap.size) Q (F0 m pc ls [])
section Loop
variable {p : Program} {l : Launch} {e : Env} {s : State} {m : MethodId} {below : List Frame} {meth : Method} {c : Code} {b L : Nat} {xs : Nat → Int32} {H : Heap} {locs : List Loc} {Q : State → Prop} {cells slots : Nat}
variable {D : va_G} {g : Nat → Nat} {gL x mm n i pc : Nat} {ls : Array Slot} {lf : LV} {rest : List Value} {σ : PS} {ov : Int64}
theorem z_arg {k : Int} {j : Nat} (hx : p.tables.exec = Jvm.exec) (hb : c.code = code) (hX : va_X b L xs s s.heap) (hbl : b < s.heap.size) (hS : va_S (A0 s) s.heap H locs) (h : lsR ls lf) (h0 : lf[0]? = some (some (.ref b))) (h4 : lf[4]? = some (some (.int (nI i)))) (hk : Int32.ofInt k = nI j) (hi : i + j < L) (hL : L ≤ 192)
    (d0 : decode code pc = .ok (.aload_n 0, 1)) (d1 : decode code (pc + 1) = .ok (.iload 4, 2)) (d2 : decode code (pc + 1 + 2) = .ok (.iconst k, 1)) (d3 : decode code (pc + 1 + 2 + 1) = .ok (.iadd, 1)) (d4 : decode code (pc + 1 + 2 + 1 + 1) = .ok (.iaload, 1))
    (kk : W p l e room_1 s m #[Value.ref b] below meth c H locs cells slots Q (F0 m (pc + 1 + 2 + 1 + 1 + 1) ls (.int (iI (xs (i + j)).toInt) :: rest))) : W p l e room_1 s m #[Value.ref b] below meth c H locs cells slots Q (F0 m pc ls rest) := by
  refine z_aln hx hb h d0 h0 ?_
  refine z_il hx hb h d1 h4 ?_
  refine lv_iconst (v := nI j) hx hb d2 hk ?_
  refine lv_iadd hx hb d3 ?_
  rw [nI_add]
  have hbA : ¬ A0 s b := Nat.not_le.mpr hbl
  refine va_sld hx hb hX hbl hbA hS (vp_in_nI hi (by omega)) d4 ?_
  rw [nI_clamp (by omega)]
  rw [iI_of] at kk
  exact kk
theorem z_thr {S0 : Nat} {s1 s2 : ST} {t : Int} {i2 : Nat} (hl : l.stackTraces = false) (X : CallFix p m c code 7 s #[Value.ref b] gW RL) (hC : LwC D g gL s) (hn : n ≤ 49) (hJ : LJ g s.heap.size σ x mm n s1 s2 t) (hH : LH D g gL s σ (mm + 26) ov H locs) (hls : lsR ls lf) (hlf : lf.length = 7) (h2 : lf[2]? = some (some (.ref mm))) (hi2 : i2 = 71) (hS0 : S0 = 8 * s.heap.size)
    (d0 : decode code pc = .ok (.aload_n 2, 1)) (d1 : decode code (pc + 1) = .ok (.invokevirtual i2, 3))
    (kk : ∀ (H : Heap) (locs : List Loc) (σ : PS), LJ g s.heap.size σ x mm n s1 s2 t → LH D g gL s σ (mm + 26) ov H locs → W p l e room_1 s m #[Value.ref b] below meth c H locs (zN σ - s.heap.size) (zS σ - S0) Q (F0 m (pc + 1 + 3) ls [.int (iI t)])) :
    W p l e room_1 s m #[Value.ref b] below meth c H locs (zN σ - s.heap.size) (zS σ - S0) Q (F0 m pc ls []) := by
  subst hi2
  subst hS0
  obtain ⟨hx, hb, -⟩ := id X
  refine z_aln hx hb hls d0 h2 ?_
  obtain ⟨N3, τ3, hrun3, hJ3, en, es⟩ := LJ_ref (kr := 92) (ls := [some (.ref mm)]) (r := Sum.inl (some (.int (iI t)))) (s2' := s2) (t' := t) hJ (fun C S A v Q hv ht hq => v92_0 (by rw [ht]; exact hq v ht hv))
  have hr3 := hJ3.room hn
  have hs := hJ.s
  exact L_ref (As := []) hl X hC hH ⟨hJ.o.1, hJ.o.2.1⟩ hs ⟨by omega, by omega⟩ (by omega) (by omega) hrun3 (Nat.le_of_ble_eq_true rfl) (by decide) rfl rfl (by decide) hJ.km gK_92 rfl (by decide) (hls.1.trans hlf) (Nat.le_of_ble_eq_true rfl) d1 (fun H3 locs3 hH3 => kk H3 locs3 τ3 hJ3 hH3)
/-- behind a call with an answer -/
theorem T_out {st : ST} {t zb : Int} {off : Int} (hl : l.stackTraces = false) (X : CallFix p m c code 7 s #[Value.ref b] gW RL) (hC : LwC D g gL s) (hn : n ≤ 49) (hJ : LJ g s.heap.size σ x mm n st st t) (hH : LH D g gL s σ (mm + 26) ov H locs) (hov : iI t = 0 → ov = (iI zb).toInt64)
    (hls : lsR ls [some (.ref b), some (.ref x), some (.ref mm), some (.ref (mm + 26)), some (.int (nI i)), some (.int (iI t)), some (.int (iI zb))]) (kk : LwK p l e s m below meth c b D g gL x mm Q n i 905)
    (d0 : decode code pc = .ok (.aload_n 2, 1)) (d1 : decode code (pc + 1) = .ok (.invokevirtual 71, 3)) (d2 : decode code (pc + 4) = .ok (.iload 5, 2)) (d3 : decode code (pc + 6) = .ok (.if_icmp .eq 5, 3)) (d4 : decode code (pc + 11) = .ok (.iload 5, 2)) (d5 : decode code (pc + 13) = .ok (.ifCond .ne 15, 3)) (d6 : decode code (pc + 16) = .ok (.aload_n 3, 1)) (d7 : decode code (pc + 17) = .ok (.iconst 0, 1)) (d8 : decode code (pc + 18) = .ok (.laload, 1)) (d9 : decode code (pc + 19) = .ok (.iload 6, 2)) (d10 : decode code (pc + 21) = .ok (.i2l, 1)) (d11 : decode code (pc + 22) = .ok (.lcmp, 1)) (d12 : decode code (pc + 23) = .ok (.ifCond .eq 5, 3)) (d13 : decode code (pc + 28) = .ok (.goto off, 3)) (hoff : ((pc + 28 : Nat) : Int) + off = ((905 : Nat) : Int)) :
    W p l e room_1 s m #[Value.ref b] below meth c H locs (zN σ - s.heap.size) (zS σ - 8 * s.heap.size) Q (F0 m pc ls []) := by
  obtain ⟨hx, hb, -⟩ := id X
  refine z_thr hl X hC hn hJ hH hls rfl rfl rfl rfl d0 d1 (fun H locs σ hJ hH => ?_)
  refine z_il hx hb hls d2 rfl ?_
  refine lv_icmp_eq (tgt := pc + 11) hx hb d3 (by omega) (fun _ => ?_) (fun q => absurd rfl q)
  refine z_il hx hb hls d4 rfl ?_
  have fin : W p l e room_1 s m #[Value.ref b] below meth c H locs (zN σ - s.heap.size) (zS σ - 8 * s.heap.size) Q (F0 m (pc + 28) ls []) := lv_goto (tgt := 905) hx hb d13 hoff (kk H locs σ st t ov ls _ _ hJ hH hls)
  refine lv_if_ne (tgt := pc + 28) hx hb d5 (by omega) (fun _ => fin) (fun q => ?_)
  refine z_aln hx hb hls d6 rfl ?_
  refine lv_iconst (v := 0) hx hb d7 (by decide) ?_
  obtain ⟨-, -, -, -, f, hf, hP⟩ := id hH
  refine va_lald hx hb hC.2.2.1 hP 0 0 rfl rfl (fun q => q.elim (by decide) (by decide)) d8 ?_
  refine z_il hx hb hls d9 rfl ?_
  refine lv_i2l hx hb d10 rfl ?_
  refine W.lcmp hx hb d11 ?_
  have e0 : lg_cmp (f (0 : Int32).toNatClampNeg) (iI zb).toInt64 = 0 := by
    have e1 : f (0 : Int32).toNatClampNeg = (iI zb).toInt64 := (show f 0 = _ from hf).trans (hov q)
    rw [e1]
    simp [lg_cmp]
  rw [e0]
  exact lv_if_eq (tgt := pc + 28) hx hb d12 (by omega) (fun _ => fin) (fun q => absurd rfl q)
/-- behind a call without one -/
theorem T_no {st : ST} {t : Int} {off : Int} {v6 : Option Value} (hl : l.stackTraces = false) (X : CallFix p m c code 7 s #[Value.ref b] gW RL) (hC : LwC D g gL s) (hn : n ≤ 49) (hJ : LJ g s.heap.size σ x mm n st st t) (hH : LH D g gL s σ (mm + 26) ov H locs)
    (hls : lsR ls [some (.ref b), some (.ref x), some (.ref mm), some (.ref (mm + 26)), some (.int (nI i)), some (.int (iI t)), v6]) (kk : LwK p l e s m below meth c b D g gL x mm Q n i 905)
    (d0 : decode code pc = .ok (.aload_n 2, 1)) (d1 : decode code (pc + 1) = .ok (.invokevirtual 71, 3)) (d2 : decode code (pc + 4) = .ok (.iload 5, 2)) (d3 : decode code (pc + 6) = .ok (.if_icmp .eq 5, 3)) (d13 : decode code (pc + 11) = .ok (.goto off, 3)) (hoff : ((pc + 11 : Nat) : Int) + off = ((905 : Nat) : Int)) :
    W p l e room_1 s m #[Value.ref b] below meth c H locs (zN σ - s.heap.size) (zS σ - 8 * s.heap.size) Q (F0 m pc ls []) := by
  obtain ⟨hx, hb, -⟩ := id X
  refine z_thr hl X hC hn hJ hH hls rfl rfl rfl rfl d0 d1 (fun H locs σ hJ hH => ?_)
  refine z_il hx hb hls d2 rfl ?_
  refine lv_icmp_eq (tgt := pc + 11) hx hb d3 (by omega) (fun _ => ?_) (fun q => absurd rfl q)
  exact lv_goto (tgt := 905) hx hb d13 hoff (kk H locs σ st t ov ls _ _ hJ hH hls)
end Loop
theorem i0_of {z : Int} (h : 0 ≤ z ∧ z ≤ 4) (h0 : iI z = 0) : z = 0 := by
  have := iI_toInt (z := z) (by omega)
  rw [h0] at this
  exact this.symm
theorem pd_entry : (parseMethodDescriptor yL_entry.desc).map (fun d => d.parameters.length) = some 3 := by decide +kernel
theorem zr_entry (s : ST) (a1 : Int) : (x0 s a1).1 = 0 ∨ (x0 s a1).1 = 1 := by
  unfold x0
  repeat' split
  all_goals simp
theorem pd_key : (parseMethodDescriptor yL_key.desc).map (fun d => d.parameters.length) = some 3 := by decide +kernel
theorem zr_key (s : ST) (a1 a2 : Int) : (x1 s a1 a2).1 = 0 ∨ (x1 s a1 a2).1 = 1 ∨ (x1 s a1 a2).1 = 2 ∨ (x1 s a1 a2).1 = 3 := by
  unfold x1
  repeat' split
  all_goals simp
theorem pd_field : (parseMethodDescriptor yL_field.desc).map (fun d => d.parameters.length) = some 4 := by decide +kernel
theorem zr_field (s : ST) (a1 a2 a3 : Int) : (x2 s a1 a2 a3).1 = 0 ∨ (x2 s a1 a2 a3).1 = 1 ∨ (x2 s a1 a2 a3).1 = 2 ∨ (x2 s a1 a2 a3).1 = 3 ∨ (x2 s a1 a2 a3).1 = 4 := by
  unfold x2
  repeat' split
  all_goals simp
theorem pd_cite : (parseMethodDescriptor yL_cite.desc).map (fun d => d.parameters.length) = some 3 := by decide +kernel
theorem zr_cite (s : ST) (a1 : Int) : (x3 s a1).1 = 0 ∨ (x3 s a1).1 = 1 ∨ (x3 s a1).1 = 2 := by
  unfold x3
  repeat' split
  all_goals simp
theorem pd_cross : (parseMethodDescriptor yL_cross.desc).map (fun d => d.parameters.length) = some 4 := by decide +kernel
theorem zr_cross (s : ST) (a1 a2 : Int) : (x4 s a1 a2).1 = 0 ∨ (x4 s a1 a2).1 = 1 := by
  unfold x4
  repeat' split
  all_goals simp
theorem pd_style : (parseMethodDescriptor yL_style.desc).map (fun d => d.parameters.length) = some 4 := by decide +kernel
theorem zr_style (s : ST) (a1 a2 : Int) : (x5 s a1 a2).1 = 0 ∨ (x5 s a1 a2).1 = 1 := by
  unfold x5
  repeat' split
  all_goals simp
theorem pd_row : (parseMethodDescriptor yL_row.desc).map (fun d => d.parameters.length) = some 3 := by decide +kernel
theorem zr_row (s : ST) (a1 : Int) : (x7 s a1).1 = 0 ∨ (x7 s a1).1 = 1 := by
  unfold x7
  repeat' split
  all_goals simp
theorem pd_letter : (parseMethodDescriptor yL_letter.desc).map (fun d => d.parameters.length) = some 3 := by decide +kernel
theorem zr_letter (s : ST) (a1 : Int) : (x8 s a1).1 = 0 ∨ (x8 s a1).1 = 1 := by
  unfold x8
  repeat' split
  all_goals simp
theorem pd_initials : (parseMethodDescriptor yL_initials.desc).map (fun d => d.parameters.length) = some 5 := by decide +kernel
theorem zr_initials (s : ST) (a1 a2 a3 : Int) : (x9 s a1 a2 a3).1 = 0 ∨ (x9 s a1 a2 a3).1 = 1 ∨ (x9 s a1 a2 a3).1 = 2 := by
  unfold x9
  repeat' split
  all_goals simp
theorem pd_missing : (parseMethodDescriptor yL_missing.desc).map (fun d => d.parameters.length) = some 4 := by decide +kernel
theorem zr_missing (s : ST) (a1 a2 : Int) : (x10 s a1 a2).1 = 0 ∨ (x10 s a1 a2).1 = 1 := by
  unfold x10
  repeat' split
  all_goals simp
theorem pd_print : (parseMethodDescriptor yL_print.desc).map (fun d => d.parameters.length) = some 3 := by decide +kernel
theorem zr_print (s : ST) (a1 : Int) : (x11 s a1).1 = 0 ∨ (x11 s a1).1 = 1 := by
  unfold x11
  repeat' split
  all_goals simp
theorem pd_at : (parseMethodDescriptor yL_at.desc).map (fun d => d.parameters.length) = some 3 := by decide +kernel
theorem zr_at (s : ST) (a1 : Int) : (x12 s a1).1 = 0 ∨ (x12 s a1).1 = 1 := by
  unfold x12
  repeat' split
  all_goals simp
theorem pd_twice : (parseMethodDescriptor yL_twice.desc).map (fun d => d.parameters.length) = some 3 := by decide +kernel
theorem zr_twice (s : ST) (a1 : Int) : (x13 s a1).1 = 0 ∨ (x13 s a1).1 = 1 := by
  unfold x13
  repeat' split
  all_goals simp
set_option maxHeartbeats 2000000 in
theorem lc_entry {p : Program} {l : Launch} {e : Env} {s : State} {m : MethodId} {below : List Frame} {meth : Method} {c : Code} {b L : Nat} {xs : Nat → Int32} {Q : State → Prop} {D : va_G} {g : Nat → Nat} {gL x mm n : Nat} (hl : l.stackTraces = false) (C0 : lw_At p s m meth c b L xs) (hL : L ≤ 192) (hC : LwC D g gL s) (hn : n ≤ 47) (hi : 4 * n + 4 ≤ L) (kk : LwK p l e s m below meth c b D g gL x mm Q (n + 1) (4 * n) 905) : LwK p l e s m below meth c b D g gL x mm Q n (4 * n) 108 := by
  intro H locs σ st t ov ls v5 v6 hJ hH hls
  obtain ⟨hx, hb, hr, hml, hown, hts, hX, hbl, hlocks, hgv⟩ := C0
  have X : CallFix p m c code 7 s #[Value.ref b] gW RL := ⟨hx, hb, hml, hown, fun w hw => hts w (gW_in w hw)⟩
  refine z_aln hx hb hls dL_law_108 rfl ?_
  refine z_arg (j := 1) hx hb hX hbl hH.2.2.1 hls rfl rfl (by decide) (by omega) hL dL_law_109 dL_law_110 dL_law_112 dL_law_113 dL_law_114 ?_
  refine z_aln hx hb hls dL_law_115 rfl ?_
  obtain ⟨N, τ, hrun, hJ1, hm1, hm2⟩ := LJ_cls (kc := 67) (ls := [some (.ref x), some (.int (iI (xs (4 * n + 1)).toInt)), none]) (r := rzI [3] (x0 st (xs (4 * n + 1)).toInt)) (s1' := (x0 st (xs (4 * n + 1)).toInt).2.2) (by omega) hJ (fun U c ℓ A Es Rw B O Q h hB hQ => k67 h hB (iI_R _) hQ)
  have hr1 := hJ1.room (by omega)
  have hs1 := hJ.s
  refine L_help (As := [.ref x, .int (iI (xs (4 * n + 1)).toInt), .ref (mm + 26)]) (rest := []) (S0 := 8 * s.heap.size) X hC hH hJ.o hs1 ⟨hm1, hm2⟩ (by omega) (by omega) (h_entry (sound hl D g _ _ N 67 [.ref x, .int (iI (xs (4 * n + 1)).toInt)] σ _ τ (by decide) (Nat.le_of_ble_eq_true rfl) hrun) rfl (zr_entry _ _) hJ.kx.1 ⟨hm1, hm2⟩) gL_entry.1 gL_entry.2.1 gL_entry.2.2 rfl pd_entry (by decide) hls.1 (Nat.le_of_ble_eq_true rfl) dL_law_116 (fun N2 H1 locs1 q1 q2 hH1 => ?_)
  have hJ2 := LJ_bump (N' := N2) (S' := zS τ + 6) hJ1 ⟨q1, q2⟩ ⟨by omega, by omega⟩
  generalize ((N2, zS τ + 6, τ.2.2) : PS) = σ2 at hJ2 hH1 ⊢
  refine z_is hx hb hls dL_law_119 (Nat.le_of_ble_eq_true rfl) (fun ls2 hls2 => ?_)
  have hls2 : lsR ls2 [some (.ref b), some (.ref x), some (.ref mm), some (.ref (mm + 26)), some (.int (nI (4 * n))), some (.int (iI (x0 st (xs (4 * n + 1)).toInt).1)), v6] := hls2
  refine z_aln hx hb hls2 dL_law_121 rfl ?_
  refine z_arg (j := 1) hx hb hX hbl hH1.2.2.1 hls2 rfl rfl (by decide) (by omega) hL dL_law_122 dL_law_123 dL_law_125 dL_law_126 dL_law_127 ?_
  obtain ⟨N3, τ3, hrun3, hJ3, en, es⟩ := LJ_ref (kr := 94) (ls := [some (.ref mm), some (.int (iI (xs (4 * n + 1)).toInt))]) (r := Sum.inl (some (.int (iI (x0 st (xs (4 * n + 1)).toInt).2.1)))) (s2' := (x0 st (xs (4 * n + 1)).toInt).2.2) (t' := (x0 st (xs (4 * n + 1)).toInt).1) hJ2 (fun C S A v Q hv _ hq => s94 (iI_R _) hv hq)
  have hr3 := hJ3.room (by omega)
  have hs2 := hJ2.s
  refine L_ref (As := [.int (iI (xs (4 * n + 1)).toInt)]) (rest := []) hl X hC hH1 ⟨hJ2.o.1, hJ2.o.2.1⟩ hs2 ⟨by omega, by omega⟩ (by omega) (by omega) hrun3 (Nat.le_of_ble_eq_true rfl) (by decide) rfl rfl (by decide) hJ2.km gK_94 rfl (by decide) hls2.1 (Nat.le_of_ble_eq_true rfl) dL_law_128 (fun H3 locs3 hH3 => ?_)
  refine z_is hx hb hls2 dL_law_131 (Nat.le_of_ble_eq_true rfl) (fun ls3 hls3 => ?_)
  have hz := zr_entry st (xs (4 * n + 1)).toInt
  exact T_out (zb := (x0 st (xs (4 * n + 1)).toInt).2.1) hl X hC (by omega) hJ3 hH3 (fun h => by rw [if_pos (i0_of (by omega) h)]) hls3 kk dL_law_133 dL_law_134 dL_law_137 dL_law_139 dL_law_144 dL_law_146 dL_law_149 dL_law_150 dL_law_151 dL_law_152 dL_law_154 dL_law_155 dL_law_156 dL_law_161 (by decide)
set_option maxHeartbeats 2000000 in
theorem lc_key {p : Program} {l : Launch} {e : Env} {s : State} {m : MethodId} {below : List Frame} {meth : Method} {c : Code} {b L : Nat} {xs : Nat → Int32} {Q : State → Prop} {D : va_G} {g : Nat → Nat} {gL x mm n : Nat} (hl : l.stackTraces = false) (C0 : lw_At p s m meth c b L xs) (hL : L ≤ 192) (hC : LwC D g gL s) (hn : n ≤ 47) (hi : 4 * n + 4 ≤ L) (kk : LwK p l e s m below meth c b D g gL x mm Q (n + 1) (4 * n) 905) : LwK p l e s m below meth c b D g gL x mm Q n (4 * n) 164 := by
  intro H locs σ st t ov ls v5 v6 hJ hH hls
  obtain ⟨hx, hb, hr, hml, hown, hts, hX, hbl, hlocks, hgv⟩ := C0
  have X : CallFix p m c code 7 s #[Value.ref b] gW RL := ⟨hx, hb, hml, hown, fun w hw => hts w (gW_in w hw)⟩
  refine z_aln hx hb hls dL_law_164 rfl ?_
  refine z_arg (j := 1) hx hb hX hbl hH.2.2.1 hls rfl rfl (by decide) (by omega) hL dL_law_165 dL_law_166 dL_law_168 dL_law_169 dL_law_170 ?_
  refine z_arg (j := 2) hx hb hX hbl hH.2.2.1 hls rfl rfl (by decide) (by omega) hL dL_law_171 dL_law_172 dL_law_174 dL_law_175 dL_law_176 ?_
  obtain ⟨N, τ, hrun, hJ1, hm1, hm2⟩ := LJ_cls (kc := 68) (ls := [some (.ref x), some (.int (iI (xs (4 * n + 1)).toInt)), some (.int (iI (xs (4 * n + 2)).toInt))]) (r := rzV [0, 2, 3] (x1 st (xs (4 * n + 1)).toInt (xs (4 * n + 2)).toInt)) (s1' := (x1 st (xs (4 * n + 1)).toInt (xs (4 * n + 2)).toInt).2.2) (by omega) hJ (fun U c ℓ A Es Rw B O Q h hB hQ => k68 h hB (iI_R _) (iI_R _) hQ)
  have hr1 := hJ1.room (by omega)
  have hs1 := hJ.s
  refine L_help (As := [.ref x, .int (iI (xs (4 * n + 1)).toInt), .int (iI (xs (4 * n + 2)).toInt)]) (rest := []) (S0 := 8 * s.heap.size) X hC hH hJ.o hs1 ⟨hm1, hm2⟩ (by omega) (by omega) (h_key (sound hl D g _ _ N 68 [.ref x, .int (iI (xs (4 * n + 1)).toInt), .int (iI (xs (4 * n + 2)).toInt)] σ _ τ (by decide) (Nat.le_of_ble_eq_true rfl) hrun) rfl (zr_key _ _ _) hJ.kx.1 ⟨hm1, hm2⟩) gL_key.1 gL_key.2.1 gL_key.2.2 rfl pd_key (by decide) hls.1 (Nat.le_of_ble_eq_true rfl) dL_law_177 (fun N2 H1 locs1 q1 q2 hH1 => ?_)
  have hJ2 := LJ_bump (N' := N2) (S' := zS τ + 6) hJ1 ⟨q1, q2⟩ ⟨by omega, by omega⟩
  generalize ((N2, zS τ + 6, τ.2.2) : PS) = σ2 at hJ2 hH1 ⊢
  refine z_is hx hb hls dL_law_180 (Nat.le_of_ble_eq_true rfl) (fun ls2 hls2 => ?_)
  have hls2 : lsR ls2 [some (.ref b), some (.ref x), some (.ref mm), some (.ref (mm + 26)), some (.int (nI (4 * n))), some (.int (iI (x1 st (xs (4 * n + 1)).toInt (xs (4 * n + 2)).toInt).1)), v6] := hls2
  refine z_aln hx hb hls2 dL_law_182 rfl ?_
  refine z_arg (j := 1) hx hb hX hbl hH1.2.2.1 hls2 rfl rfl (by decide) (by omega) hL dL_law_183 dL_law_184 dL_law_186 dL_law_187 dL_law_188 ?_
  refine z_arg (j := 2) hx hb hX hbl hH1.2.2.1 hls2 rfl rfl (by decide) (by omega) hL dL_law_189 dL_law_190 dL_law_192 dL_law_193 dL_law_194 ?_
  obtain ⟨N3, τ3, hrun3, hJ3, en, es⟩ := LJ_ref (kr := 98) (ls := [some (.ref mm), some (.int (iI (xs (4 * n + 1)).toInt)), some (.int (iI (xs (4 * n + 2)).toInt)), none]) (r := Sum.inl none) (s2' := (x1 st (xs (4 * n + 1)).toInt (xs (4 * n + 2)).toInt).2.2) (t' := (x1 st (xs (4 * n + 1)).toInt (xs (4 * n + 2)).toInt).1) hJ2 (fun C S A v Q hv _ hq => s98 (iI_R _) (iI_R _) hv hq)
  have hr3 := hJ3.room (by omega)
  have hs2 := hJ2.s
  refine L_refv (As := [.int (iI (xs (4 * n + 1)).toInt), .int (iI (xs (4 * n + 2)).toInt)]) (rest := []) hl X hC hH1 ⟨hJ2.o.1, hJ2.o.2.1⟩ hs2 ⟨by omega, by omega⟩ (by omega) (by omega) hrun3 (Nat.le_of_ble_eq_true rfl) (by decide) rfl rfl (by decide) hJ2.km gK_98 rfl (by decide) hls2.1 (Nat.le_of_ble_eq_true rfl) dL_law_195 (fun H3 locs3 hH3 => ?_)
  exact T_no hl X hC (by omega) hJ3 hH3 hls2 kk dL_law_198 dL_law_199 dL_law_202 dL_law_204 dL_law_209 (by decide)
set_option maxHeartbeats 2000000 in
theorem lc_field {p : Program} {l : Launch} {e : Env} {s : State} {m : MethodId} {below : List Frame} {meth : Method} {c : Code} {b L : Nat} {xs : Nat → Int32} {Q : State → Prop} {D : va_G} {g : Nat → Nat} {gL x mm n : Nat} (hl : l.stackTraces = false) (C0 : lw_At p s m meth c b L xs) (hL : L ≤ 192) (hC : LwC D g gL s) (hn : n ≤ 47) (hi : 4 * n + 4 ≤ L) (kk : LwK p l e s m below meth c b D g gL x mm Q (n + 1) (4 * n) 905) : LwK p l e s m below meth c b D g gL x mm Q n (4 * n) 212 := by
  intro H locs σ st t ov ls v5 v6 hJ hH hls
  obtain ⟨hx, hb, hr, hml, hown, hts, hX, hbl, hlocks, hgv⟩ := C0
  have X : CallFix p m c code 7 s #[Value.ref b] gW RL := ⟨hx, hb, hml, hown, fun w hw => hts w (gW_in w hw)⟩
  refine z_aln hx hb hls dL_law_212 rfl ?_
  refine z_arg (j := 1) hx hb hX hbl hH.2.2.1 hls rfl rfl (by decide) (by omega) hL dL_law_213 dL_law_214 dL_law_216 dL_law_217 dL_law_218 ?_
  refine z_arg (j := 2) hx hb hX hbl hH.2.2.1 hls rfl rfl (by decide) (by omega) hL dL_law_219 dL_law_220 dL_law_222 dL_law_223 dL_law_224 ?_
  refine z_arg (j := 3) hx hb hX hbl hH.2.2.1 hls rfl rfl (by decide) (by omega) hL dL_law_225 dL_law_226 dL_law_228 dL_law_229 dL_law_230 ?_
  obtain ⟨N, τ, hrun, hJ1, hm1, hm2⟩ := LJ_cls (kc := 69) (ls := [some (.ref x), some (.int (iI (xs (4 * n + 1)).toInt)), some (.int (iI (xs (4 * n + 2)).toInt)), some (.int (iI (xs (4 * n + 3)).toInt)), none]) (r := rzV [0, 1, 2, 3] (x2 st (xs (4 * n + 1)).toInt (xs (4 * n + 2)).toInt (xs (4 * n + 3)).toInt)) (s1' := (x2 st (xs (4 * n + 1)).toInt (xs (4 * n + 2)).toInt (xs (4 * n + 3)).toInt).2.2) (by omega) hJ (fun U c ℓ A Es Rw B O Q h hB hQ => k69 h hB (iI_R _) (iI_R _) (iI_R _) hQ)
  have hr1 := hJ1.room (by omega)
  have hs1 := hJ.s
  refine L_help (As := [.ref x, .int (iI (xs (4 * n + 1)).toInt), .int (iI (xs (4 * n + 2)).toInt), .int (iI (xs (4 * n + 3)).toInt)]) (rest := []) (S0 := 8 * s.heap.size) X hC hH hJ.o hs1 ⟨hm1, hm2⟩ (by omega) (by omega) (h_field (sound hl D g _ _ N 69 [.ref x, .int (iI (xs (4 * n + 1)).toInt), .int (iI (xs (4 * n + 2)).toInt), .int (iI (xs (4 * n + 3)).toInt)] σ _ τ (by decide) (Nat.le_of_ble_eq_true rfl) hrun) rfl (zr_field _ _ _ _) hJ.kx.1 ⟨hm1, hm2⟩) gL_field.1 gL_field.2.1 gL_field.2.2 rfl pd_field (by decide) hls.1 (Nat.le_of_ble_eq_true rfl) dL_law_231 (fun N2 H1 locs1 q1 q2 hH1 => ?_)
  have hJ2 := LJ_bump (N' := N2) (S' := zS τ + 6) hJ1 ⟨q1, q2⟩ ⟨by omega, by omega⟩
  generalize ((N2, zS τ + 6, τ.2.2) : PS) = σ2 at hJ2 hH1 ⊢
  refine z_is hx hb hls dL_law_234 (Nat.le_of_ble_eq_true rfl) (fun ls2 hls2 => ?_)
  have hls2 : lsR ls2 [some (.ref b), some (.ref x), some (.ref mm), some (.ref (mm + 26)), some (.int (nI (4 * n))), some (.int (iI (x2 st (xs (4 * n + 1)).toInt (xs (4 * n + 2)).toInt (xs (4 * n + 3)).toInt).1)), v6] := hls2
  refine z_aln hx hb hls2 dL_law_236 rfl ?_
  refine z_arg (j := 1) hx hb hX hbl hH1.2.2.1 hls2 rfl rfl (by decide) (by omega) hL dL_law_237 dL_law_238 dL_law_240 dL_law_241 dL_law_242 ?_
  refine z_arg (j := 2) hx hb hX hbl hH1.2.2.1 hls2 rfl rfl (by decide) (by omega) hL dL_law_243 dL_law_244 dL_law_246 dL_law_247 dL_law_248 ?_
  refine z_arg (j := 3) hx hb hX hbl hH1.2.2.1 hls2 rfl rfl (by decide) (by omega) hL dL_law_249 dL_law_250 dL_law_252 dL_law_253 dL_law_254 ?_
  obtain ⟨N3, τ3, hrun3, hJ3, en, es⟩ := LJ_ref (kr := 99) (ls := [some (.ref mm), some (.int (iI (xs (4 * n + 1)).toInt)), some (.int (iI (xs (4 * n + 2)).toInt)), some (.int (iI (xs (4 * n + 3)).toInt)), none, none]) (r := Sum.inl none) (s2' := (x2 st (xs (4 * n + 1)).toInt (xs (4 * n + 2)).toInt (xs (4 * n + 3)).toInt).2.2) (t' := (x2 st (xs (4 * n + 1)).toInt (xs (4 * n + 2)).toInt (xs (4 * n + 3)).toInt).1) hJ2 (fun C S A v Q hv _ hq => s99 (iI_R _) (iI_R _) (iI_R _) hv hq)
  have hr3 := hJ3.room (by omega)
  have hs2 := hJ2.s
  refine L_refv (As := [.int (iI (xs (4 * n + 1)).toInt), .int (iI (xs (4 * n + 2)).toInt), .int (iI (xs (4 * n + 3)).toInt)]) (rest := []) hl X hC hH1 ⟨hJ2.o.1, hJ2.o.2.1⟩ hs2 ⟨by omega, by omega⟩ (by omega) (by omega) hrun3 (Nat.le_of_ble_eq_true rfl) (by decide) rfl rfl (by decide) hJ2.km gK_99 rfl (by decide) hls2.1 (Nat.le_of_ble_eq_true rfl) dL_law_255 (fun H3 locs3 hH3 => ?_)
  exact T_no hl X hC (by omega) hJ3 hH3 hls2 kk dL_law_258 dL_law_259 dL_law_262 dL_law_264 dL_law_269 (by decide)
set_option maxHeartbeats 2000000 in
theorem lc_cite {p : Program} {l : Launch} {e : Env} {s : State} {m : MethodId} {below : List Frame} {meth : Method} {c : Code} {b L : Nat} {xs : Nat → Int32} {Q : State → Prop} {D : va_G} {g : Nat → Nat} {gL x mm n : Nat} (hl : l.stackTraces = false) (C0 : lw_At p s m meth c b L xs) (hL : L ≤ 192) (hC : LwC D g gL s) (hn : n ≤ 47) (hi : 4 * n + 4 ≤ L) (kk : LwK p l e s m below meth c b D g gL x mm Q (n + 1) (4 * n) 905) : LwK p l e s m below meth c b D g gL x mm Q n (4 * n) 272 := by
  intro H locs σ st t ov ls v5 v6 hJ hH hls
  obtain ⟨hx, hb, hr, hml, hown, hts, hX, hbl, hlocks, hgv⟩ := C0
  have X : CallFix p m c code 7 s #[Value.ref b] gW RL := ⟨hx, hb, hml, hown, fun w hw => hts w (gW_in w hw)⟩
  refine z_aln hx hb hls dL_law_272 rfl ?_
  refine z_arg (j := 1) hx hb hX hbl hH.2.2.1 hls rfl rfl (by decide) (by omega) hL dL_law_273 dL_law_274 dL_law_276 dL_law_277 dL_law_278 ?_
  refine z_aln hx hb hls dL_law_279 rfl ?_
  obtain ⟨N, τ, hrun, hJ1, hm1, hm2⟩ := LJ_cls (kc := 70) (ls := [some (.ref x), some (.int (iI (xs (4 * n + 1)).toInt)), none]) (r := rzI [0, 3] (x3 st (xs (4 * n + 1)).toInt)) (s1' := (x3 st (xs (4 * n + 1)).toInt).2.2) (by omega) hJ (fun U c ℓ A Es Rw B O Q h hB hQ => k70 h hB (iI_R _) hQ)
  have hr1 := hJ1.room (by omega)
  have hs1 := hJ.s
  refine L_help (As := [.ref x, .int (iI (xs (4 * n + 1)).toInt), .ref (mm + 26)]) (rest := []) (S0 := 8 * s.heap.size) X hC hH hJ.o hs1 ⟨hm1, hm2⟩ (by omega) (by omega) (h_cite (sound hl D g _ _ N 70 [.ref x, .int (iI (xs (4 * n + 1)).toInt)] σ _ τ (by decide) (Nat.le_of_ble_eq_true rfl) hrun) rfl (zr_cite _ _) hJ.kx.1 ⟨hm1, hm2⟩) gL_cite.1 gL_cite.2.1 gL_cite.2.2 rfl pd_cite (by decide) hls.1 (Nat.le_of_ble_eq_true rfl) dL_law_280 (fun N2 H1 locs1 q1 q2 hH1 => ?_)
  have hJ2 := LJ_bump (N' := N2) (S' := zS τ + 6) hJ1 ⟨q1, q2⟩ ⟨by omega, by omega⟩
  generalize ((N2, zS τ + 6, τ.2.2) : PS) = σ2 at hJ2 hH1 ⊢
  refine z_is hx hb hls dL_law_283 (Nat.le_of_ble_eq_true rfl) (fun ls2 hls2 => ?_)
  have hls2 : lsR ls2 [some (.ref b), some (.ref x), some (.ref mm), some (.ref (mm + 26)), some (.int (nI (4 * n))), some (.int (iI (x3 st (xs (4 * n + 1)).toInt).1)), v6] := hls2
  refine z_aln hx hb hls2 dL_law_285 rfl ?_
  refine z_arg (j := 1) hx hb hX hbl hH1.2.2.1 hls2 rfl rfl (by decide) (by omega) hL dL_law_286 dL_law_287 dL_law_289 dL_law_290 dL_law_291 ?_
  obtain ⟨N3, τ3, hrun3, hJ3, en, es⟩ := LJ_ref (kr := 100) (ls := [some (.ref mm), some (.int (iI (xs (4 * n + 1)).toInt)), none, none]) (r := Sum.inl (some (.int (iI (x3 st (xs (4 * n + 1)).toInt).2.1)))) (s2' := (x3 st (xs (4 * n + 1)).toInt).2.2) (t' := (x3 st (xs (4 * n + 1)).toInt).1) hJ2 (fun C S A v Q hv _ hq => s100 (iI_R _) hv hq)
  have hr3 := hJ3.room (by omega)
  have hs2 := hJ2.s
  refine L_ref (As := [.int (iI (xs (4 * n + 1)).toInt)]) (rest := []) hl X hC hH1 ⟨hJ2.o.1, hJ2.o.2.1⟩ hs2 ⟨by omega, by omega⟩ (by omega) (by omega) hrun3 (Nat.le_of_ble_eq_true rfl) (by decide) rfl rfl (by decide) hJ2.km gK_100 rfl (by decide) hls2.1 (Nat.le_of_ble_eq_true rfl) dL_law_292 (fun H3 locs3 hH3 => ?_)
  refine z_is hx hb hls2 dL_law_295 (Nat.le_of_ble_eq_true rfl) (fun ls3 hls3 => ?_)
  have hz := zr_cite st (xs (4 * n + 1)).toInt
  exact T_out (zb := (x3 st (xs (4 * n + 1)).toInt).2.1) hl X hC (by omega) hJ3 hH3 (fun h => by rw [if_pos (i0_of (by omega) h)]) hls3 kk dL_law_297 dL_law_298 dL_law_301 dL_law_303 dL_law_308 dL_law_310 dL_law_313 dL_law_314 dL_law_315 dL_law_316 dL_law_318 dL_law_319 dL_law_320 dL_law_325 (by decide)
set_option maxHeartbeats 2000000 in
theorem lc_cross {p : Program} {l : Launch} {e : Env} {s : State} {m : MethodId} {below : List Frame} {meth : Method} {c : Code} {b L : Nat} {xs : Nat → Int32} {Q : State → Prop} {D : va_G} {g : Nat → Nat} {gL x mm n : Nat} (hl : l.stackTraces = false) (C0 : lw_At p s m meth c b L xs) (hL : L ≤ 192) (hC : LwC D g gL s) (hn : n ≤ 47) (hi : 4 * n + 4 ≤ L) (kk : LwK p l e s m below meth c b D g gL x mm Q (n + 1) (4 * n) 905) : LwK p l e s m below meth c b D g gL x mm Q n (4 * n) 328 := by
  intro H locs σ st t ov ls v5 v6 hJ hH hls
  obtain ⟨hx, hb, hr, hml, hown, hts, hX, hbl, hlocks, hgv⟩ := C0
  have X : CallFix p m c code 7 s #[Value.ref b] gW RL := ⟨hx, hb, hml, hown, fun w hw => hts w (gW_in w hw)⟩
  refine z_aln hx hb hls dL_law_328 rfl ?_
  refine z_arg (j := 1) hx hb hX hbl hH.2.2.1 hls rfl rfl (by decide) (by omega) hL dL_law_329 dL_law_330 dL_law_332 dL_law_333 dL_law_334 ?_
  refine z_arg (j := 2) hx hb hX hbl hH.2.2.1 hls rfl rfl (by decide) (by omega) hL dL_law_335 dL_law_336 dL_law_338 dL_law_339 dL_law_340 ?_
  refine z_aln hx hb hls dL_law_341 rfl ?_
  obtain ⟨N, τ, hrun, hJ1, hm1, hm2⟩ := LJ_cls (kc := 71) (ls := [some (.ref x), some (.int (iI (xs (4 * n + 1)).toInt)), some (.int (iI (xs (4 * n + 2)).toInt)), none, none]) (r := rzI [0] (x4 st (xs (4 * n + 1)).toInt (xs (4 * n + 2)).toInt)) (s1' := (x4 st (xs (4 * n + 1)).toInt (xs (4 * n + 2)).toInt).2.2) (by omega) hJ (fun U c ℓ A Es Rw B O Q h hB hQ => k71 h hB (iI_R _) (iI_R _) hQ)
  have hr1 := hJ1.room (by omega)
  have hs1 := hJ.s
  refine L_help (As := [.ref x, .int (iI (xs (4 * n + 1)).toInt), .int (iI (xs (4 * n + 2)).toInt), .ref (mm + 26)]) (rest := []) (S0 := 8 * s.heap.size) X hC hH hJ.o hs1 ⟨hm1, hm2⟩ (by omega) (by omega) (h_cross (sound hl D g _ _ N 71 [.ref x, .int (iI (xs (4 * n + 1)).toInt), .int (iI (xs (4 * n + 2)).toInt)] σ _ τ (by decide) (Nat.le_of_ble_eq_true rfl) hrun) rfl (zr_cross _ _ _) hJ.kx.1 ⟨hm1, hm2⟩) gL_cross.1 gL_cross.2.1 gL_cross.2.2 rfl pd_cross (by decide) hls.1 (Nat.le_of_ble_eq_true rfl) dL_law_342 (fun N2 H1 locs1 q1 q2 hH1 => ?_)
  have hJ2 := LJ_bump (N' := N2) (S' := zS τ + 6) hJ1 ⟨q1, q2⟩ ⟨by omega, by omega⟩
  generalize ((N2, zS τ + 6, τ.2.2) : PS) = σ2 at hJ2 hH1 ⊢
  refine z_is hx hb hls dL_law_345 (Nat.le_of_ble_eq_true rfl) (fun ls2 hls2 => ?_)
  have hls2 : lsR ls2 [some (.ref b), some (.ref x), some (.ref mm), some (.ref (mm + 26)), some (.int (nI (4 * n))), some (.int (iI (x4 st (xs (4 * n + 1)).toInt (xs (4 * n + 2)).toInt).1)), v6] := hls2
  refine z_aln hx hb hls2 dL_law_347 rfl ?_
  refine z_arg (j := 1) hx hb hX hbl hH1.2.2.1 hls2 rfl rfl (by decide) (by omega) hL dL_law_348 dL_law_349 dL_law_351 dL_law_352 dL_law_353 ?_
  refine z_arg (j := 2) hx hb hX hbl hH1.2.2.1 hls2 rfl rfl (by decide) (by omega) hL dL_law_354 dL_law_355 dL_law_357 dL_law_358 dL_law_359 ?_
  obtain ⟨N3, τ3, hrun3, hJ3, en, es⟩ := LJ_ref (kr := 101) (ls := [some (.ref mm), some (.int (iI (xs (4 * n + 1)).toInt)), some (.int (iI (xs (4 * n + 2)).toInt)), none]) (r := Sum.inl (some (.int (iI (x4 st (xs (4 * n + 1)).toInt (xs (4 * n + 2)).toInt).2.1)))) (s2' := (x4 st (xs (4 * n + 1)).toInt (xs (4 * n + 2)).toInt).2.2) (t' := (x4 st (xs (4 * n + 1)).toInt (xs (4 * n + 2)).toInt).1) hJ2 (fun C S A v Q hv _ hq => s101 (iI_R _) (iI_R _) hv hq)
  have hr3 := hJ3.room (by omega)
  have hs2 := hJ2.s
  refine L_ref (As := [.int (iI (xs (4 * n + 1)).toInt), .int (iI (xs (4 * n + 2)).toInt)]) (rest := []) hl X hC hH1 ⟨hJ2.o.1, hJ2.o.2.1⟩ hs2 ⟨by omega, by omega⟩ (by omega) (by omega) hrun3 (Nat.le_of_ble_eq_true rfl) (by decide) rfl rfl (by decide) hJ2.km gK_101 rfl (by decide) hls2.1 (Nat.le_of_ble_eq_true rfl) dL_law_360 (fun H3 locs3 hH3 => ?_)
  refine z_is hx hb hls2 dL_law_363 (Nat.le_of_ble_eq_true rfl) (fun ls3 hls3 => ?_)
  have hz := zr_cross st (xs (4 * n + 1)).toInt (xs (4 * n + 2)).toInt
  exact T_out (zb := (x4 st (xs (4 * n + 1)).toInt (xs (4 * n + 2)).toInt).2.1) hl X hC (by omega) hJ3 hH3 (fun h => by rw [if_pos (i0_of (by omega) h)]) hls3 kk dL_law_365 dL_law_366 dL_law_369 dL_law_371 dL_law_376 dL_law_378 dL_law_381 dL_law_382 dL_law_383 dL_law_384 dL_law_386 dL_law_387 dL_law_388 dL_law_393 (by decide)
set_option maxHeartbeats 2000000 in
theorem lc_style {p : Program} {l : Launch} {e : Env} {s : State} {m : MethodId} {below : List Frame} {meth : Method} {c : Code} {b L : Nat} {xs : Nat → Int32} {Q : State → Prop} {D : va_G} {g : Nat → Nat} {gL x mm n : Nat} (hl : l.stackTraces = false) (C0 : lw_At p s m meth c b L xs) (hL : L ≤ 192) (hC : LwC D g gL s) (hn : n ≤ 47) (hi : 4 * n + 4 ≤ L) (kk : LwK p l e s m below meth c b D g gL x mm Q (n + 1) (4 * n) 905) : LwK p l e s m below meth c b D g gL x mm Q n (4 * n) 396 := by
  intro H locs σ st t ov ls v5 v6 hJ hH hls
  obtain ⟨hx, hb, hr, hml, hown, hts, hX, hbl, hlocks, hgv⟩ := C0
  have X : CallFix p m c code 7 s #[Value.ref b] gW RL := ⟨hx, hb, hml, hown, fun w hw => hts w (gW_in w hw)⟩
  refine z_aln hx hb hls dL_law_396 rfl ?_
  refine z_arg (j := 1) hx hb hX hbl hH.2.2.1 hls rfl rfl (by decide) (by omega) hL dL_law_397 dL_law_398 dL_law_400 dL_law_401 dL_law_402 ?_
  refine z_arg (j := 2) hx hb hX hbl hH.2.2.1 hls rfl rfl (by decide) (by omega) hL dL_law_403 dL_law_404 dL_law_406 dL_law_407 dL_law_408 ?_
  refine z_aln hx hb hls dL_law_409 rfl ?_
  obtain ⟨N, τ, hrun, hJ1, hm1, hm2⟩ := LJ_cls (kc := 72) (ls := [some (.ref x), some (.int (iI (xs (4 * n + 1)).toInt)), some (.int (iI (xs (4 * n + 2)).toInt)), none]) (r := rzI [2] (x5 st (xs (4 * n + 1)).toInt (xs (4 * n + 2)).toInt)) (s1' := (x5 st (xs (4 * n + 1)).toInt (xs (4 * n + 2)).toInt).2.2) (by omega) hJ (fun U c ℓ A Es Rw B O Q h hB hQ => k72 h hB (iI_R _) (iI_R _) hQ)
  have hr1 := hJ1.room (by omega)
  have hs1 := hJ.s
  refine L_help (As := [.ref x, .int (iI (xs (4 * n + 1)).toInt), .int (iI (xs (4 * n + 2)).toInt), .ref (mm + 26)]) (rest := []) (S0 := 8 * s.heap.size) X hC hH hJ.o hs1 ⟨hm1, hm2⟩ (by omega) (by omega) (h_style (sound hl D g _ _ N 72 [.ref x, .int (iI (xs (4 * n + 1)).toInt), .int (iI (xs (4 * n + 2)).toInt)] σ _ τ (by decide) (Nat.le_of_ble_eq_true rfl) hrun) rfl (zr_style _ _ _) hJ.kx.1 ⟨hm1, hm2⟩) gL_style.1 gL_style.2.1 gL_style.2.2 rfl pd_style (by decide) hls.1 (Nat.le_of_ble_eq_true rfl) dL_law_410 (fun N2 H1 locs1 q1 q2 hH1 => ?_)
  have hJ2 := LJ_bump (N' := N2) (S' := zS τ + 6) hJ1 ⟨q1, q2⟩ ⟨by omega, by omega⟩
  generalize ((N2, zS τ + 6, τ.2.2) : PS) = σ2 at hJ2 hH1 ⊢
  refine z_is hx hb hls dL_law_413 (Nat.le_of_ble_eq_true rfl) (fun ls2 hls2 => ?_)
  have hls2 : lsR ls2 [some (.ref b), some (.ref x), some (.ref mm), some (.ref (mm + 26)), some (.int (nI (4 * n))), some (.int (iI (x5 st (xs (4 * n + 1)).toInt (xs (4 * n + 2)).toInt).1)), v6] := hls2
  refine z_aln hx hb hls2 dL_law_415 rfl ?_
  refine z_arg (j := 1) hx hb hX hbl hH1.2.2.1 hls2 rfl rfl (by decide) (by omega) hL dL_law_416 dL_law_417 dL_law_419 dL_law_420 dL_law_421 ?_
  refine z_arg (j := 2) hx hb hX hbl hH1.2.2.1 hls2 rfl rfl (by decide) (by omega) hL dL_law_422 dL_law_423 dL_law_425 dL_law_426 dL_law_427 ?_
  obtain ⟨N3, τ3, hrun3, hJ3, en, es⟩ := LJ_ref (kr := 102) (ls := [some (.ref mm), some (.int (iI (xs (4 * n + 1)).toInt)), some (.int (iI (xs (4 * n + 2)).toInt)), none]) (r := Sum.inl (some (.int (iI (x5 st (xs (4 * n + 1)).toInt (xs (4 * n + 2)).toInt).2.1)))) (s2' := (x5 st (xs (4 * n + 1)).toInt (xs (4 * n + 2)).toInt).2.2) (t' := (x5 st (xs (4 * n + 1)).toInt (xs (4 * n + 2)).toInt).1) hJ2 (fun C S A v Q hv _ hq => s102 (iI_R _) (iI_R _) hv hq)
  have hr3 := hJ3.room (by omega)
  have hs2 := hJ2.s
  refine L_ref (As := [.int (iI (xs (4 * n + 1)).toInt), .int (iI (xs (4 * n + 2)).toInt)]) (rest := []) hl X hC hH1 ⟨hJ2.o.1, hJ2.o.2.1⟩ hs2 ⟨by omega, by omega⟩ (by omega) (by omega) hrun3 (Nat.le_of_ble_eq_true rfl) (by decide) rfl rfl (by decide) hJ2.km gK_102 rfl (by decide) hls2.1 (Nat.le_of_ble_eq_true rfl) dL_law_428 (fun H3 locs3 hH3 => ?_)
  refine z_is hx hb hls2 dL_law_431 (Nat.le_of_ble_eq_true rfl) (fun ls3 hls3 => ?_)
  have hz := zr_style st (xs (4 * n + 1)).toInt (xs (4 * n + 2)).toInt
  exact T_out (zb := (x5 st (xs (4 * n + 1)).toInt (xs (4 * n + 2)).toInt).2.1) hl X hC (by omega) hJ3 hH3 (fun h => by rw [if_pos (i0_of (by omega) h)]) hls3 kk dL_law_433 dL_law_434 dL_law_437 dL_law_439 dL_law_444 dL_law_446 dL_law_449 dL_law_450 dL_law_451 dL_law_452 dL_law_454 dL_law_455 dL_law_456 dL_law_461 (by decide)
set_option maxHeartbeats 2000000 in
theorem lc_row {p : Program} {l : Launch} {e : Env} {s : State} {m : MethodId} {below : List Frame} {meth : Method} {c : Code} {b L : Nat} {xs : Nat → Int32} {Q : State → Prop} {D : va_G} {g : Nat → Nat} {gL x mm n : Nat} (hl : l.stackTraces = false) (C0 : lw_At p s m meth c b L xs) (hL : L ≤ 192) (hC : LwC D g gL s) (hn : n ≤ 47) (hi : 4 * n + 4 ≤ L) (kk : LwK p l e s m below meth c b D g gL x mm Q (n + 1) (4 * n) 905) : LwK p l e s m below meth c b D g gL x mm Q n (4 * n) 477 := by
  intro H locs σ st t ov ls v5 v6 hJ hH hls
  obtain ⟨hx, hb, hr, hml, hown, hts, hX, hbl, hlocks, hgv⟩ := C0
  have X : CallFix p m c code 7 s #[Value.ref b] gW RL := ⟨hx, hb, hml, hown, fun w hw => hts w (gW_in w hw)⟩
  refine z_aln hx hb hls dL_law_477 rfl ?_
  refine z_arg (j := 1) hx hb hX hbl hH.2.2.1 hls rfl rfl (by decide) (by omega) hL dL_law_478 dL_law_479 dL_law_481 dL_law_482 dL_law_483 ?_
  refine z_aln hx hb hls dL_law_484 rfl ?_
  obtain ⟨N, τ, hrun, hJ1, hm1, hm2⟩ := LJ_cls (kc := 74) (ls := [some (.ref x), some (.int (iI (xs (4 * n + 1)).toInt))]) (r := rzI [1] (x7 st (xs (4 * n + 1)).toInt)) (s1' := (x7 st (xs (4 * n + 1)).toInt).2.2) (by omega) hJ (fun U c ℓ A Es Rw B O Q h hB hQ => k74 h hB (iI_R _) hQ)
  have hr1 := hJ1.room (by omega)
  have hs1 := hJ.s
  refine L_help (As := [.ref x, .int (iI (xs (4 * n + 1)).toInt), .ref (mm + 26)]) (rest := []) (S0 := 8 * s.heap.size) X hC hH hJ.o hs1 ⟨hm1, hm2⟩ (by omega) (by omega) (h_row (sound hl D g _ _ N 74 [.ref x, .int (iI (xs (4 * n + 1)).toInt)] σ _ τ (by decide) (Nat.le_of_ble_eq_true rfl) hrun) rfl (zr_row _ _) hJ.kx.1 ⟨hm1, hm2⟩) gL_row.1 gL_row.2.1 gL_row.2.2 rfl pd_row (by decide) hls.1 (Nat.le_of_ble_eq_true rfl) dL_law_485 (fun N2 H1 locs1 q1 q2 hH1 => ?_)
  have hJ2 := LJ_bump (N' := N2) (S' := zS τ + 6) hJ1 ⟨q1, q2⟩ ⟨by omega, by omega⟩
  generalize ((N2, zS τ + 6, τ.2.2) : PS) = σ2 at hJ2 hH1 ⊢
  refine z_is hx hb hls dL_law_488 (Nat.le_of_ble_eq_true rfl) (fun ls2 hls2 => ?_)
  have hls2 : lsR ls2 [some (.ref b), some (.ref x), some (.ref mm), some (.ref (mm + 26)), some (.int (nI (4 * n))), some (.int (iI (x7 st (xs (4 * n + 1)).toInt).1)), v6] := hls2
  refine z_aln hx hb hls2 dL_law_490 rfl ?_
  refine z_arg (j := 1) hx hb hX hbl hH1.2.2.1 hls2 rfl rfl (by decide) (by omega) hL dL_law_491 dL_law_492 dL_law_494 dL_law_495 dL_law_496 ?_
  obtain ⟨N3, τ3, hrun3, hJ3, en, es⟩ := LJ_ref (kr := 143) (ls := [some (.ref mm), some (.int (iI (xs (4 * n + 1)).toInt))]) (r := Sum.inl (some (.int (iI (x7 st (xs (4 * n + 1)).toInt).2.1)))) (s2' := (x7 st (xs (4 * n + 1)).toInt).2.2) (t' := (x7 st (xs (4 * n + 1)).toInt).1) hJ2 (fun C S A v Q hv _ hq => s143 (iI_R _) hv hq)
  have hr3 := hJ3.room (by omega)
  have hs2 := hJ2.s
  refine L_ref (As := [.int (iI (xs (4 * n + 1)).toInt)]) (rest := []) hl X hC hH1 ⟨hJ2.o.1, hJ2.o.2.1⟩ hs2 ⟨by omega, by omega⟩ (by omega) (by omega) hrun3 (Nat.le_of_ble_eq_true rfl) (by decide) rfl rfl (by decide) hJ2.km gK_143 rfl (by decide) hls2.1 (Nat.le_of_ble_eq_true rfl) dL_law_497 (fun H3 locs3 hH3 => ?_)
  refine z_is hx hb hls2 dL_law_500 (Nat.le_of_ble_eq_true rfl) (fun ls3 hls3 => ?_)
  have hz := zr_row st (xs (4 * n + 1)).toInt
  exact T_out (zb := (x7 st (xs (4 * n + 1)).toInt).2.1) hl X hC (by omega) hJ3 hH3 (fun h => by rw [if_pos (i0_of (by omega) h)]) hls3 kk dL_law_502 dL_law_503 dL_law_506 dL_law_508 dL_law_513 dL_law_515 dL_law_518 dL_law_519 dL_law_520 dL_law_521 dL_law_523 dL_law_524 dL_law_525 dL_law_530 (by decide)
set_option maxHeartbeats 2000000 in
theorem lc_letter {p : Program} {l : Launch} {e : Env} {s : State} {m : MethodId} {below : List Frame} {meth : Method} {c : Code} {b L : Nat} {xs : Nat → Int32} {Q : State → Prop} {D : va_G} {g : Nat → Nat} {gL x mm n : Nat} (hl : l.stackTraces = false) (C0 : lw_At p s m meth c b L xs) (hL : L ≤ 192) (hC : LwC D g gL s) (hn : n ≤ 47) (hi : 4 * n + 4 ≤ L) (kk : LwK p l e s m below meth c b D g gL x mm Q (n + 1) (4 * n) 905) : LwK p l e s m below meth c b D g gL x mm Q n (4 * n) 533 := by
  intro H locs σ st t ov ls v5 v6 hJ hH hls
  obtain ⟨hx, hb, hr, hml, hown, hts, hX, hbl, hlocks, hgv⟩ := C0
  have X : CallFix p m c code 7 s #[Value.ref b] gW RL := ⟨hx, hb, hml, hown, fun w hw => hts w (gW_in w hw)⟩
  refine z_aln hx hb hls dL_law_533 rfl ?_
  refine z_arg (j := 1) hx hb hX hbl hH.2.2.1 hls rfl rfl (by decide) (by omega) hL dL_law_534 dL_law_535 dL_law_537 dL_law_538 dL_law_539 ?_
  refine z_aln hx hb hls dL_law_540 rfl ?_
  obtain ⟨N, τ, hrun, hJ1, hm1, hm2⟩ := LJ_cls (kc := 75) (ls := [some (.ref x), some (.int (iI (xs (4 * n + 1)).toInt))]) (r := rzI [1] (x8 st (xs (4 * n + 1)).toInt)) (s1' := (x8 st (xs (4 * n + 1)).toInt).2.2) (by omega) hJ (fun U c ℓ A Es Rw B O Q h hB hQ => k75 h hB (iI_R _) hQ)
  have hr1 := hJ1.room (by omega)
  have hs1 := hJ.s
  refine L_help (As := [.ref x, .int (iI (xs (4 * n + 1)).toInt), .ref (mm + 26)]) (rest := []) (S0 := 8 * s.heap.size) X hC hH hJ.o hs1 ⟨hm1, hm2⟩ (by omega) (by omega) (h_letter (sound hl D g _ _ N 75 [.ref x, .int (iI (xs (4 * n + 1)).toInt)] σ _ τ (by decide) (Nat.le_of_ble_eq_true rfl) hrun) rfl (zr_letter _ _) hJ.kx.1 ⟨hm1, hm2⟩) gL_letter.1 gL_letter.2.1 gL_letter.2.2 rfl pd_letter (by decide) hls.1 (Nat.le_of_ble_eq_true rfl) dL_law_541 (fun N2 H1 locs1 q1 q2 hH1 => ?_)
  have hJ2 := LJ_bump (N' := N2) (S' := zS τ + 6) hJ1 ⟨q1, q2⟩ ⟨by omega, by omega⟩
  generalize ((N2, zS τ + 6, τ.2.2) : PS) = σ2 at hJ2 hH1 ⊢
  refine z_is hx hb hls dL_law_544 (Nat.le_of_ble_eq_true rfl) (fun ls2 hls2 => ?_)
  have hls2 : lsR ls2 [some (.ref b), some (.ref x), some (.ref mm), some (.ref (mm + 26)), some (.int (nI (4 * n))), some (.int (iI (x8 st (xs (4 * n + 1)).toInt).1)), v6] := hls2
  refine z_aln hx hb hls2 dL_law_546 rfl ?_
  refine z_arg (j := 1) hx hb hX hbl hH1.2.2.1 hls2 rfl rfl (by decide) (by omega) hL dL_law_547 dL_law_548 dL_law_550 dL_law_551 dL_law_552 ?_
  obtain ⟨N3, τ3, hrun3, hJ3, en, es⟩ := LJ_ref (kr := 144) (ls := [some (.ref mm), some (.int (iI (xs (4 * n + 1)).toInt))]) (r := Sum.inl (some (.int (iI (x8 st (xs (4 * n + 1)).toInt).2.1)))) (s2' := (x8 st (xs (4 * n + 1)).toInt).2.2) (t' := (x8 st (xs (4 * n + 1)).toInt).1) hJ2 (fun C S A v Q hv _ hq => s144 (iI_R _) hv hq)
  have hr3 := hJ3.room (by omega)
  have hs2 := hJ2.s
  refine L_ref (As := [.int (iI (xs (4 * n + 1)).toInt)]) (rest := []) hl X hC hH1 ⟨hJ2.o.1, hJ2.o.2.1⟩ hs2 ⟨by omega, by omega⟩ (by omega) (by omega) hrun3 (Nat.le_of_ble_eq_true rfl) (by decide) rfl rfl (by decide) hJ2.km gK_144 rfl (by decide) hls2.1 (Nat.le_of_ble_eq_true rfl) dL_law_553 (fun H3 locs3 hH3 => ?_)
  refine z_is hx hb hls2 dL_law_556 (Nat.le_of_ble_eq_true rfl) (fun ls3 hls3 => ?_)
  have hz := zr_letter st (xs (4 * n + 1)).toInt
  exact T_out (zb := (x8 st (xs (4 * n + 1)).toInt).2.1) hl X hC (by omega) hJ3 hH3 (fun h => by rw [if_pos (i0_of (by omega) h)]) hls3 kk dL_law_558 dL_law_559 dL_law_562 dL_law_564 dL_law_569 dL_law_571 dL_law_574 dL_law_575 dL_law_576 dL_law_577 dL_law_579 dL_law_580 dL_law_581 dL_law_586 (by decide)
set_option maxHeartbeats 2000000 in
theorem lc_initials {p : Program} {l : Launch} {e : Env} {s : State} {m : MethodId} {below : List Frame} {meth : Method} {c : Code} {b L : Nat} {xs : Nat → Int32} {Q : State → Prop} {D : va_G} {g : Nat → Nat} {gL x mm n : Nat} (hl : l.stackTraces = false) (C0 : lw_At p s m meth c b L xs) (hL : L ≤ 192) (hC : LwC D g gL s) (hn : n ≤ 47) (hi : 4 * n + 4 ≤ L) (kk : LwK p l e s m below meth c b D g gL x mm Q (n + 1) (4 * n) 905) : LwK p l e s m below meth c b D g gL x mm Q n (4 * n) 589 := by
  intro H locs σ st t ov ls v5 v6 hJ hH hls
  obtain ⟨hx, hb, hr, hml, hown, hts, hX, hbl, hlocks, hgv⟩ := C0
  have X : CallFix p m c code 7 s #[Value.ref b] gW RL := ⟨hx, hb, hml, hown, fun w hw => hts w (gW_in w hw)⟩
  refine z_aln hx hb hls dL_law_589 rfl ?_
  refine z_arg (j := 1) hx hb hX hbl hH.2.2.1 hls rfl rfl (by decide) (by omega) hL dL_law_590 dL_law_591 dL_law_593 dL_law_594 dL_law_595 ?_
  refine z_arg (j := 2) hx hb hX hbl hH.2.2.1 hls rfl rfl (by decide) (by omega) hL dL_law_596 dL_law_597 dL_law_599 dL_law_600 dL_law_601 ?_
  refine z_arg (j := 3) hx hb hX hbl hH.2.2.1 hls rfl rfl (by decide) (by omega) hL dL_law_602 dL_law_603 dL_law_605 dL_law_606 dL_law_607 ?_
  refine z_aln hx hb hls dL_law_608 rfl ?_
  obtain ⟨N, τ, hrun, hJ1, hm1, hm2⟩ := LJ_cls (kc := 76) (ls := [some (.ref x), some (.int (iI (xs (4 * n + 1)).toInt)), some (.int (iI (xs (4 * n + 2)).toInt)), some (.int (iI (xs (4 * n + 3)).toInt))]) (r := rzI [0, 1] (x9 st (xs (4 * n + 1)).toInt (xs (4 * n + 2)).toInt (xs (4 * n + 3)).toInt)) (s1' := (x9 st (xs (4 * n + 1)).toInt (xs (4 * n + 2)).toInt (xs (4 * n + 3)).toInt).2.2) (by omega) hJ (fun U c ℓ A Es Rw B O Q h hB hQ => k76 h hB (iI_R _) (iI_R _) (iI_R _) hQ)
  have hr1 := hJ1.room (by omega)
  have hs1 := hJ.s
  refine L_help (As := [.ref x, .int (iI (xs (4 * n + 1)).toInt), .int (iI (xs (4 * n + 2)).toInt), .int (iI (xs (4 * n + 3)).toInt), .ref (mm + 26)]) (rest := []) (S0 := 8 * s.heap.size) X hC hH hJ.o hs1 ⟨hm1, hm2⟩ (by omega) (by omega) (h_initials (sound hl D g _ _ N 76 [.ref x, .int (iI (xs (4 * n + 1)).toInt), .int (iI (xs (4 * n + 2)).toInt), .int (iI (xs (4 * n + 3)).toInt)] σ _ τ (by decide) (Nat.le_of_ble_eq_true rfl) hrun) rfl (zr_initials _ _ _ _) hJ.kx.1 ⟨hm1, hm2⟩) gL_initials.1 gL_initials.2.1 gL_initials.2.2 rfl pd_initials (by decide) hls.1 (Nat.le_of_ble_eq_true rfl) dL_law_609 (fun N2 H1 locs1 q1 q2 hH1 => ?_)
  have hJ2 := LJ_bump (N' := N2) (S' := zS τ + 6) hJ1 ⟨q1, q2⟩ ⟨by omega, by omega⟩
  generalize ((N2, zS τ + 6, τ.2.2) : PS) = σ2 at hJ2 hH1 ⊢
  refine z_is hx hb hls dL_law_612 (Nat.le_of_ble_eq_true rfl) (fun ls2 hls2 => ?_)
  have hls2 : lsR ls2 [some (.ref b), some (.ref x), some (.ref mm), some (.ref (mm + 26)), some (.int (nI (4 * n))), some (.int (iI (x9 st (xs (4 * n + 1)).toInt (xs (4 * n + 2)).toInt (xs (4 * n + 3)).toInt).1)), v6] := hls2
  refine z_aln hx hb hls2 dL_law_614 rfl ?_
  refine z_arg (j := 1) hx hb hX hbl hH1.2.2.1 hls2 rfl rfl (by decide) (by omega) hL dL_law_615 dL_law_616 dL_law_618 dL_law_619 dL_law_620 ?_
  refine z_arg (j := 2) hx hb hX hbl hH1.2.2.1 hls2 rfl rfl (by decide) (by omega) hL dL_law_621 dL_law_622 dL_law_624 dL_law_625 dL_law_626 ?_
  refine z_arg (j := 3) hx hb hX hbl hH1.2.2.1 hls2 rfl rfl (by decide) (by omega) hL dL_law_627 dL_law_628 dL_law_630 dL_law_631 dL_law_632 ?_
  obtain ⟨N3, τ3, hrun3, hJ3, en, es⟩ := LJ_ref (kr := 145) (ls := [some (.ref mm), some (.int (iI (xs (4 * n + 1)).toInt)), some (.int (iI (xs (4 * n + 2)).toInt)), some (.int (iI (xs (4 * n + 3)).toInt))]) (r := Sum.inl (some (.int (iI (x9 st (xs (4 * n + 1)).toInt (xs (4 * n + 2)).toInt (xs (4 * n + 3)).toInt).2.1)))) (s2' := (x9 st (xs (4 * n + 1)).toInt (xs (4 * n + 2)).toInt (xs (4 * n + 3)).toInt).2.2) (t' := (x9 st (xs (4 * n + 1)).toInt (xs (4 * n + 2)).toInt (xs (4 * n + 3)).toInt).1) hJ2 (fun C S A v Q hv _ hq => s145 (iI_R _) (iI_R _) (iI_R _) hv hq)
  have hr3 := hJ3.room (by omega)
  have hs2 := hJ2.s
  refine L_ref (As := [.int (iI (xs (4 * n + 1)).toInt), .int (iI (xs (4 * n + 2)).toInt), .int (iI (xs (4 * n + 3)).toInt)]) (rest := []) hl X hC hH1 ⟨hJ2.o.1, hJ2.o.2.1⟩ hs2 ⟨by omega, by omega⟩ (by omega) (by omega) hrun3 (Nat.le_of_ble_eq_true rfl) (by decide) rfl rfl (by decide) hJ2.km gK_145 rfl (by decide) hls2.1 (Nat.le_of_ble_eq_true rfl) dL_law_633 (fun H3 locs3 hH3 => ?_)
  refine z_is hx hb hls2 dL_law_636 (Nat.le_of_ble_eq_true rfl) (fun ls3 hls3 => ?_)
  have hz := zr_initials st (xs (4 * n + 1)).toInt (xs (4 * n + 2)).toInt (xs (4 * n + 3)).toInt
  exact T_out (zb := (x9 st (xs (4 * n + 1)).toInt (xs (4 * n + 2)).toInt (xs (4 * n + 3)).toInt).2.1) hl X hC (by omega) hJ3 hH3 (fun h => by rw [if_pos (i0_of (by omega) h)]) hls3 kk dL_law_638 dL_law_639 dL_law_642 dL_law_644 dL_law_649 dL_law_651 dL_law_654 dL_law_655 dL_law_656 dL_law_657 dL_law_659 dL_law_660 dL_law_661 dL_law_666 (by decide)
set_option maxHeartbeats 2000000 in
theorem lc_missing {p : Program} {l : Launch} {e : Env} {s : State} {m : MethodId} {below : List Frame} {meth : Method} {c : Code} {b L : Nat} {xs : Nat → Int32} {Q : State → Prop} {D : va_G} {g : Nat → Nat} {gL x mm n : Nat} (hl : l.stackTraces = false) (C0 : lw_At p s m meth c b L xs) (hL : L ≤ 192) (hC : LwC D g gL s) (hn : n ≤ 47) (hi : 4 * n + 4 ≤ L) (kk : LwK p l e s m below meth c b D g gL x mm Q (n + 1) (4 * n) 905) : LwK p l e s m below meth c b D g gL x mm Q n (4 * n) 669 := by
  intro H locs σ st t ov ls v5 v6 hJ hH hls
  obtain ⟨hx, hb, hr, hml, hown, hts, hX, hbl, hlocks, hgv⟩ := C0
  have X : CallFix p m c code 7 s #[Value.ref b] gW RL := ⟨hx, hb, hml, hown, fun w hw => hts w (gW_in w hw)⟩
  refine z_aln hx hb hls dL_law_669 rfl ?_
  refine z_arg (j := 1) hx hb hX hbl hH.2.2.1 hls rfl rfl (by decide) (by omega) hL dL_law_670 dL_law_671 dL_law_673 dL_law_674 dL_law_675 ?_
  refine z_arg (j := 2) hx hb hX hbl hH.2.2.1 hls rfl rfl (by decide) (by omega) hL dL_law_676 dL_law_677 dL_law_679 dL_law_680 dL_law_681 ?_
  refine z_aln hx hb hls dL_law_682 rfl ?_
  obtain ⟨N, τ, hrun, hJ1, hm1, hm2⟩ := LJ_cls (kc := 77) (ls := [some (.ref x), some (.int (iI (xs (4 * n + 1)).toInt)), some (.int (iI (xs (4 * n + 2)).toInt))]) (r := rzI [1] (x10 st (xs (4 * n + 1)).toInt (xs (4 * n + 2)).toInt)) (s1' := (x10 st (xs (4 * n + 1)).toInt (xs (4 * n + 2)).toInt).2.2) (by omega) hJ (fun U c ℓ A Es Rw B O Q h hB hQ => k77 h hB (iI_R _) (iI_R _) hQ)
  have hr1 := hJ1.room (by omega)
  have hs1 := hJ.s
  refine L_help (As := [.ref x, .int (iI (xs (4 * n + 1)).toInt), .int (iI (xs (4 * n + 2)).toInt), .ref (mm + 26)]) (rest := []) (S0 := 8 * s.heap.size) X hC hH hJ.o hs1 ⟨hm1, hm2⟩ (by omega) (by omega) (h_missing (sound hl D g _ _ N 77 [.ref x, .int (iI (xs (4 * n + 1)).toInt), .int (iI (xs (4 * n + 2)).toInt)] σ _ τ (by decide) (Nat.le_of_ble_eq_true rfl) hrun) rfl (zr_missing _ _ _) hJ.kx.1 ⟨hm1, hm2⟩) gL_missing.1 gL_missing.2.1 gL_missing.2.2 rfl pd_missing (by decide) hls.1 (Nat.le_of_ble_eq_true rfl) dL_law_683 (fun N2 H1 locs1 q1 q2 hH1 => ?_)
  have hJ2 := LJ_bump (N' := N2) (S' := zS τ + 6) hJ1 ⟨q1, q2⟩ ⟨by omega, by omega⟩
  generalize ((N2, zS τ + 6, τ.2.2) : PS) = σ2 at hJ2 hH1 ⊢
  refine z_is hx hb hls dL_law_686 (Nat.le_of_ble_eq_true rfl) (fun ls2 hls2 => ?_)
  have hls2 : lsR ls2 [some (.ref b), some (.ref x), some (.ref mm), some (.ref (mm + 26)), some (.int (nI (4 * n))), some (.int (iI (x10 st (xs (4 * n + 1)).toInt (xs (4 * n + 2)).toInt).1)), v6] := hls2
  refine z_aln hx hb hls2 dL_law_688 rfl ?_
  refine z_arg (j := 1) hx hb hX hbl hH1.2.2.1 hls2 rfl rfl (by decide) (by omega) hL dL_law_689 dL_law_690 dL_law_692 dL_law_693 dL_law_694 ?_
  refine z_arg (j := 2) hx hb hX hbl hH1.2.2.1 hls2 rfl rfl (by decide) (by omega) hL dL_law_695 dL_law_696 dL_law_698 dL_law_699 dL_law_700 ?_
  obtain ⟨N3, τ3, hrun3, hJ3, en, es⟩ := LJ_ref (kr := 146) (ls := [some (.ref mm), some (.int (iI (xs (4 * n + 1)).toInt)), some (.int (iI (xs (4 * n + 2)).toInt))]) (r := Sum.inl (some (.int (iI (x10 st (xs (4 * n + 1)).toInt (xs (4 * n + 2)).toInt).2.1)))) (s2' := (x10 st (xs (4 * n + 1)).toInt (xs (4 * n + 2)).toInt).2.2) (t' := (x10 st (xs (4 * n + 1)).toInt (xs (4 * n + 2)).toInt).1) hJ2 (fun C S A v Q hv _ hq => s146 (iI_R _) (iI_R _) hv hq)
  have hr3 := hJ3.room (by omega)
  have hs2 := hJ2.s
  refine L_ref (As := [.int (iI (xs (4 * n + 1)).toInt), .int (iI (xs (4 * n + 2)).toInt)]) (rest := []) hl X hC hH1 ⟨hJ2.o.1, hJ2.o.2.1⟩ hs2 ⟨by omega, by omega⟩ (by omega) (by omega) hrun3 (Nat.le_of_ble_eq_true rfl) (by decide) rfl rfl (by decide) hJ2.km gK_146 rfl (by decide) hls2.1 (Nat.le_of_ble_eq_true rfl) dL_law_701 (fun H3 locs3 hH3 => ?_)
  refine z_is hx hb hls2 dL_law_704 (Nat.le_of_ble_eq_true rfl) (fun ls3 hls3 => ?_)
  have hz := zr_missing st (xs (4 * n + 1)).toInt (xs (4 * n + 2)).toInt
  exact T_out (zb := (x10 st (xs (4 * n + 1)).toInt (xs (4 * n + 2)).toInt).2.1) hl X hC (by omega) hJ3 hH3 (fun h => by rw [if_pos (i0_of (by omega) h)]) hls3 kk dL_law_706 dL_law_707 dL_law_710 dL_law_712 dL_law_717 dL_law_719 dL_law_722 dL_law_723 dL_law_724 dL_law_725 dL_law_727 dL_law_728 dL_law_729 dL_law_734 (by decide)
set_option maxHeartbeats 2000000 in
theorem lc_print {p : Program} {l : Launch} {e : Env} {s : State} {m : MethodId} {below : List Frame} {meth : Method} {c : Code} {b L : Nat} {xs : Nat → Int32} {Q : State → Prop} {D : va_G} {g : Nat → Nat} {gL x mm n : Nat} (hl : l.stackTraces = false) (C0 : lw_At p s m meth c b L xs) (hL : L ≤ 192) (hC : LwC D g gL s) (hn : n ≤ 47) (hi : 4 * n + 4 ≤ L) (kk : LwK p l e s m below meth c b D g gL x mm Q (n + 1) (4 * n) 905) : LwK p l e s m below meth c b D g gL x mm Q n (4 * n) 737 := by
  intro H locs σ st t ov ls v5 v6 hJ hH hls
  obtain ⟨hx, hb, hr, hml, hown, hts, hX, hbl, hlocks, hgv⟩ := C0
  have X : CallFix p m c code 7 s #[Value.ref b] gW RL := ⟨hx, hb, hml, hown, fun w hw => hts w (gW_in w hw)⟩
  refine z_aln hx hb hls dL_law_737 rfl ?_
  refine z_arg (j := 1) hx hb hX hbl hH.2.2.1 hls rfl rfl (by decide) (by omega) hL dL_law_738 dL_law_739 dL_law_741 dL_law_742 dL_law_743 ?_
  refine z_aln hx hb hls dL_law_744 rfl ?_
  obtain ⟨N, τ, hrun, hJ1, hm1, hm2⟩ := LJ_cls (kc := 78) (ls := [some (.ref x), some (.int (iI (xs (4 * n + 1)).toInt)), none]) (r := rzI [1] (x11 st (xs (4 * n + 1)).toInt)) (s1' := (x11 st (xs (4 * n + 1)).toInt).2.2) (by omega) hJ (fun U c ℓ A Es Rw B O Q h hB hQ => k78 h hB (iI_R _) hQ)
  have hr1 := hJ1.room (by omega)
  have hs1 := hJ.s
  refine L_help (As := [.ref x, .int (iI (xs (4 * n + 1)).toInt), .ref (mm + 26)]) (rest := []) (S0 := 8 * s.heap.size) X hC hH hJ.o hs1 ⟨hm1, hm2⟩ (by omega) (by omega) (h_print (sound hl D g _ _ N 78 [.ref x, .int (iI (xs (4 * n + 1)).toInt)] σ _ τ (by decide) (Nat.le_of_ble_eq_true rfl) hrun) rfl (zr_print _ _) hJ.kx.1 ⟨hm1, hm2⟩) gL_print.1 gL_print.2.1 gL_print.2.2 rfl pd_print (by decide) hls.1 (Nat.le_of_ble_eq_true rfl) dL_law_745 (fun N2 H1 locs1 q1 q2 hH1 => ?_)
  have hJ2 := LJ_bump (N' := N2) (S' := zS τ + 6) hJ1 ⟨q1, q2⟩ ⟨by omega, by omega⟩
  generalize ((N2, zS τ + 6, τ.2.2) : PS) = σ2 at hJ2 hH1 ⊢
  refine z_is hx hb hls dL_law_748 (Nat.le_of_ble_eq_true rfl) (fun ls2 hls2 => ?_)
  have hls2 : lsR ls2 [some (.ref b), some (.ref x), some (.ref mm), some (.ref (mm + 26)), some (.int (nI (4 * n))), some (.int (iI (x11 st (xs (4 * n + 1)).toInt).1)), v6] := hls2
  refine z_aln hx hb hls2 dL_law_750 rfl ?_
  refine z_arg (j := 1) hx hb hX hbl hH1.2.2.1 hls2 rfl rfl (by decide) (by omega) hL dL_law_751 dL_law_752 dL_law_754 dL_law_755 dL_law_756 ?_
  obtain ⟨N3, τ3, hrun3, hJ3, en, es⟩ := LJ_ref (kr := 147) (ls := [some (.ref mm), some (.int (iI (xs (4 * n + 1)).toInt)), none]) (r := Sum.inl (some (.int (iI (x11 st (xs (4 * n + 1)).toInt).2.1)))) (s2' := (x11 st (xs (4 * n + 1)).toInt).2.2) (t' := (x11 st (xs (4 * n + 1)).toInt).1) hJ2 (fun C S A v Q hv _ hq => s147 (iI_R _) hv hq)
  have hr3 := hJ3.room (by omega)
  have hs2 := hJ2.s
  refine L_ref (As := [.int (iI (xs (4 * n + 1)).toInt)]) (rest := []) hl X hC hH1 ⟨hJ2.o.1, hJ2.o.2.1⟩ hs2 ⟨by omega, by omega⟩ (by omega) (by omega) hrun3 (Nat.le_of_ble_eq_true rfl) (by decide) rfl rfl (by decide) hJ2.km gK_147 rfl (by decide) hls2.1 (Nat.le_of_ble_eq_true rfl) dL_law_757 (fun H3 locs3 hH3 => ?_)
  refine z_is hx hb hls2 dL_law_760 (Nat.le_of_ble_eq_true rfl) (fun ls3 hls3 => ?_)
  have hz := zr_print st (xs (4 * n + 1)).toInt
  exact T_out (zb := (x11 st (xs (4 * n + 1)).toInt).2.1) hl X hC (by omega) hJ3 hH3 (fun h => by rw [if_pos (i0_of (by omega) h)]) hls3 kk dL_law_762 dL_law_763 dL_law_766 dL_law_768 dL_law_773 dL_law_775 dL_law_778 dL_law_779 dL_law_780 dL_law_781 dL_law_783 dL_law_784 dL_law_785 dL_law_790 (by decide)
set_option maxHeartbeats 2000000 in
theorem lc_at {p : Program} {l : Launch} {e : Env} {s : State} {m : MethodId} {below : List Frame} {meth : Method} {c : Code} {b L : Nat} {xs : Nat → Int32} {Q : State → Prop} {D : va_G} {g : Nat → Nat} {gL x mm n : Nat} (hl : l.stackTraces = false) (C0 : lw_At p s m meth c b L xs) (hL : L ≤ 192) (hC : LwC D g gL s) (hn : n ≤ 47) (hi : 4 * n + 4 ≤ L) (kk : LwK p l e s m below meth c b D g gL x mm Q (n + 1) (4 * n) 905) : LwK p l e s m below meth c b D g gL x mm Q n (4 * n) 793 := by
  intro H locs σ st t ov ls v5 v6 hJ hH hls
  obtain ⟨hx, hb, hr, hml, hown, hts, hX, hbl, hlocks, hgv⟩ := C0
  have X : CallFix p m c code 7 s #[Value.ref b] gW RL := ⟨hx, hb, hml, hown, fun w hw => hts w (gW_in w hw)⟩
  refine z_aln hx hb hls dL_law_793 rfl ?_
  refine z_arg (j := 1) hx hb hX hbl hH.2.2.1 hls rfl rfl (by decide) (by omega) hL dL_law_794 dL_law_795 dL_law_797 dL_law_798 dL_law_799 ?_
  refine z_aln hx hb hls dL_law_800 rfl ?_
  obtain ⟨N, τ, hrun, hJ1, hm1, hm2⟩ := LJ_cls (kc := 79) (ls := [some (.ref x), some (.int (iI (xs (4 * n + 1)).toInt))]) (r := rzI [1] (x12 st (xs (4 * n + 1)).toInt)) (s1' := (x12 st (xs (4 * n + 1)).toInt).2.2) (by omega) hJ (fun U c ℓ A Es Rw B O Q h hB hQ => k79 h hB (iI_R _) hQ)
  have hr1 := hJ1.room (by omega)
  have hs1 := hJ.s
  refine L_help (As := [.ref x, .int (iI (xs (4 * n + 1)).toInt), .ref (mm + 26)]) (rest := []) (S0 := 8 * s.heap.size) X hC hH hJ.o hs1 ⟨hm1, hm2⟩ (by omega) (by omega) (h_at (sound hl D g _ _ N 79 [.ref x, .int (iI (xs (4 * n + 1)).toInt)] σ _ τ (by decide) (Nat.le_of_ble_eq_true rfl) hrun) rfl (zr_at _ _) hJ.kx.1 ⟨hm1, hm2⟩) gL_at.1 gL_at.2.1 gL_at.2.2 rfl pd_at (by decide) hls.1 (Nat.le_of_ble_eq_true rfl) dL_law_801 (fun N2 H1 locs1 q1 q2 hH1 => ?_)
  have hJ2 := LJ_bump (N' := N2) (S' := zS τ + 6) hJ1 ⟨q1, q2⟩ ⟨by omega, by omega⟩
  generalize ((N2, zS τ + 6, τ.2.2) : PS) = σ2 at hJ2 hH1 ⊢
  refine z_is hx hb hls dL_law_804 (Nat.le_of_ble_eq_true rfl) (fun ls2 hls2 => ?_)
  have hls2 : lsR ls2 [some (.ref b), some (.ref x), some (.ref mm), some (.ref (mm + 26)), some (.int (nI (4 * n))), some (.int (iI (x12 st (xs (4 * n + 1)).toInt).1)), v6] := hls2
  refine z_aln hx hb hls2 dL_law_806 rfl ?_
  refine z_arg (j := 1) hx hb hX hbl hH1.2.2.1 hls2 rfl rfl (by decide) (by omega) hL dL_law_807 dL_law_808 dL_law_810 dL_law_811 dL_law_812 ?_
  obtain ⟨N3, τ3, hrun3, hJ3, en, es⟩ := LJ_ref (kr := 148) (ls := [some (.ref mm), some (.int (iI (xs (4 * n + 1)).toInt))]) (r := Sum.inl (some (.int (iI (x12 st (xs (4 * n + 1)).toInt).2.1)))) (s2' := (x12 st (xs (4 * n + 1)).toInt).2.2) (t' := (x12 st (xs (4 * n + 1)).toInt).1) hJ2 (fun C S A v Q hv _ hq => s148 (iI_R _) hv hq)
  have hr3 := hJ3.room (by omega)
  have hs2 := hJ2.s
  refine L_ref (As := [.int (iI (xs (4 * n + 1)).toInt)]) (rest := []) hl X hC hH1 ⟨hJ2.o.1, hJ2.o.2.1⟩ hs2 ⟨by omega, by omega⟩ (by omega) (by omega) hrun3 (Nat.le_of_ble_eq_true rfl) (by decide) rfl rfl (by decide) hJ2.km gK_148 rfl (by decide) hls2.1 (Nat.le_of_ble_eq_true rfl) dL_law_813 (fun H3 locs3 hH3 => ?_)
  refine z_is hx hb hls2 dL_law_816 (Nat.le_of_ble_eq_true rfl) (fun ls3 hls3 => ?_)
  have hz := zr_at st (xs (4 * n + 1)).toInt
  exact T_out (zb := (x12 st (xs (4 * n + 1)).toInt).2.1) hl X hC (by omega) hJ3 hH3 (fun h => by rw [if_pos (i0_of (by omega) h)]) hls3 kk dL_law_818 dL_law_819 dL_law_822 dL_law_824 dL_law_829 dL_law_831 dL_law_834 dL_law_835 dL_law_836 dL_law_837 dL_law_839 dL_law_840 dL_law_841 dL_law_846 (by decide)
set_option maxHeartbeats 2000000 in
theorem lc_twice {p : Program} {l : Launch} {e : Env} {s : State} {m : MethodId} {below : List Frame} {meth : Method} {c : Code} {b L : Nat} {xs : Nat → Int32} {Q : State → Prop} {D : va_G} {g : Nat → Nat} {gL x mm n : Nat} (hl : l.stackTraces = false) (C0 : lw_At p s m meth c b L xs) (hL : L ≤ 192) (hC : LwC D g gL s) (hn : n ≤ 47) (hi : 4 * n + 4 ≤ L) (kk : LwK p l e s m below meth c b D g gL x mm Q (n + 1) (4 * n) 905) : LwK p l e s m below meth c b D g gL x mm Q n (4 * n) 849 := by
  intro H locs σ st t ov ls v5 v6 hJ hH hls
  obtain ⟨hx, hb, hr, hml, hown, hts, hX, hbl, hlocks, hgv⟩ := C0
  have X : CallFix p m c code 7 s #[Value.ref b] gW RL := ⟨hx, hb, hml, hown, fun w hw => hts w (gW_in w hw)⟩
  refine z_aln hx hb hls dL_law_849 rfl ?_
  refine z_arg (j := 1) hx hb hX hbl hH.2.2.1 hls rfl rfl (by decide) (by omega) hL dL_law_850 dL_law_851 dL_law_853 dL_law_854 dL_law_855 ?_
  refine z_aln hx hb hls dL_law_856 rfl ?_
  obtain ⟨N, τ, hrun, hJ1, hm1, hm2⟩ := LJ_cls (kc := 80) (ls := [some (.ref x), some (.int (iI (xs (4 * n + 1)).toInt)), none, none, none]) (r := rzI [1] (x13 st (xs (4 * n + 1)).toInt)) (s1' := (x13 st (xs (4 * n + 1)).toInt).2.2) (by omega) hJ (fun U c ℓ A Es Rw B O Q h hB hQ => k80 h hB (iI_R _) hQ)
  have hr1 := hJ1.room (by omega)
  have hs1 := hJ.s
  refine L_help (As := [.ref x, .int (iI (xs (4 * n + 1)).toInt), .ref (mm + 26)]) (rest := []) (S0 := 8 * s.heap.size) X hC hH hJ.o hs1 ⟨hm1, hm2⟩ (by omega) (by omega) (h_twice (sound hl D g _ _ N 80 [.ref x, .int (iI (xs (4 * n + 1)).toInt)] σ _ τ (by decide) (Nat.le_of_ble_eq_true rfl) hrun) rfl (zr_twice _ _) hJ.kx.1 ⟨hm1, hm2⟩) gL_twice.1 gL_twice.2.1 gL_twice.2.2 rfl pd_twice (by decide) hls.1 (Nat.le_of_ble_eq_true rfl) dL_law_857 (fun N2 H1 locs1 q1 q2 hH1 => ?_)
  have hJ2 := LJ_bump (N' := N2) (S' := zS τ + 6) hJ1 ⟨q1, q2⟩ ⟨by omega, by omega⟩
  generalize ((N2, zS τ + 6, τ.2.2) : PS) = σ2 at hJ2 hH1 ⊢
  refine z_is hx hb hls dL_law_860 (Nat.le_of_ble_eq_true rfl) (fun ls2 hls2 => ?_)
  have hls2 : lsR ls2 [some (.ref b), some (.ref x), some (.ref mm), some (.ref (mm + 26)), some (.int (nI (4 * n))), some (.int (iI (x13 st (xs (4 * n + 1)).toInt).1)), v6] := hls2
  refine z_aln hx hb hls2 dL_law_862 rfl ?_
  refine z_arg (j := 1) hx hb hX hbl hH1.2.2.1 hls2 rfl rfl (by decide) (by omega) hL dL_law_863 dL_law_864 dL_law_866 dL_law_867 dL_law_868 ?_
  obtain ⟨N3, τ3, hrun3, hJ3, en, es⟩ := LJ_ref (kr := 149) (ls := [some (.ref mm), some (.int (iI (xs (4 * n + 1)).toInt)), none, none, none]) (r := Sum.inl (some (.int (iI (x13 st (xs (4 * n + 1)).toInt).2.1)))) (s2' := (x13 st (xs (4 * n + 1)).toInt).2.2) (t' := (x13 st (xs (4 * n + 1)).toInt).1) hJ2 (fun C S A v Q hv _ hq => s149 (iI_R _) hv hq)
  have hr3 := hJ3.room (by omega)
  have hs2 := hJ2.s
  refine L_ref (As := [.int (iI (xs (4 * n + 1)).toInt)]) (rest := []) hl X hC hH1 ⟨hJ2.o.1, hJ2.o.2.1⟩ hs2 ⟨by omega, by omega⟩ (by omega) (by omega) hrun3 (Nat.le_of_ble_eq_true rfl) (by decide) rfl rfl (by decide) hJ2.km gK_149 rfl (by decide) hls2.1 (Nat.le_of_ble_eq_true rfl) dL_law_869 (fun H3 locs3 hH3 => ?_)
  refine z_is hx hb hls2 dL_law_872 (Nat.le_of_ble_eq_true rfl) (fun ls3 hls3 => ?_)
  have hz := zr_twice st (xs (4 * n + 1)).toInt
  exact T_out (zb := (x13 st (xs (4 * n + 1)).toInt).2.1) hl X hC (by omega) hJ3 hH3 (fun h => by rw [if_pos (i0_of (by omega) h)]) hls3 kk dL_law_874 dL_law_875 dL_law_878 dL_law_880 dL_law_885 dL_law_887 dL_law_890 dL_law_891 dL_law_892 dL_law_893 dL_law_895 dL_law_896 dL_law_897 dL_law_902 (by decide)
set_option maxHeartbeats 2000000 in
theorem lc_run {p : Program} {l : Launch} {e : Env} {s : State} {m : MethodId} {below : List Frame} {meth : Method} {c : Code} {b L : Nat} {xs : Nat → Int32} {Q : State → Prop} {D : va_G} {g : Nat → Nat} {gL x mm n : Nat} (hl : l.stackTraces = false) (C0 : lw_At p s m meth c b L xs) (hL : L ≤ 192) (hC : LwC D g gL s) (hn : n ≤ 47) (hi : 4 * n + 4 ≤ L) (kk : LwK p l e s m below meth c b D g gL x mm Q (n + 1) (4 * n) 905) : LwK p l e s m below meth c b D g gL x mm Q n (4 * n) 464 := by
  intro H locs σ st t ov ls v5 v6 hJ hH hls
  obtain ⟨hx, hb, hr, hml, hown, hts, hX, hbl, hlocks, hgv⟩ := C0
  have X : CallFix p m c code 7 s #[Value.ref b] gW RL := ⟨hx, hb, hml, hown, fun w hw => hts w (gW_in w hw)⟩
  refine z_aln hx hb hls dL_law_464 rfl ?_
  obtain ⟨N, τ, hrun, hJ1, hm1, hm2⟩ := LJ_cls (kc := 73) (ls := [some (.ref x), none]) (r := Sum.inl (some (.int (iI (x6 st).2.1)))) (s1' := (x6 st).2.2) (by omega) hJ (fun U c ℓ A Es Rw B O Q h hB hQ => k73 h hB hQ)
  have hr1 := hJ1.room (by omega)
  have hs1 := hJ.s
  refine L_ref (As := []) (rest := []) hl X hC hH ⟨hJ.o.1, hJ.o.2.1⟩ hs1 ⟨hm1, hm2⟩ (by omega) (by omega) hrun (Nat.le_of_ble_eq_true rfl) (by decide) rfl rfl (by decide) hJ.kx.1 gK_73 rfl (by decide) hls.1 (Nat.le_of_ble_eq_true rfl) dL_law_465 (fun H1 locs1 hH1 => ?_)
  refine z_aln hx hb hls dL_law_468 rfl ?_
  obtain ⟨N3, τ3, hrun3, hJ3, en, es⟩ := LJ_ref (kr := 141) (ls := [some (.ref mm), none]) (r := Sum.inl (some (.int (iI (x6 st).2.1)))) (s2' := (x6 st).2.2) (t' := (x6 st).1) hJ1 (fun C S A v Q hv _ hq => s141 hv hq)
  have hr3 := hJ3.room (by omega)
  have hs2 := hJ1.s
  refine L_ref (As := []) (rest := [.int (iI (x6 st).2.1)]) hl X hC hH1 ⟨hJ1.o.1, hJ1.o.2.1⟩ hs2 ⟨by omega, by omega⟩ (by omega) (by omega) hrun3 (Nat.le_of_ble_eq_true rfl) (by decide) rfl rfl (by decide) hJ1.km gK_141 rfl (by decide) hls.1 (Nat.le_of_ble_eq_true rfl) dL_law_469 (fun H3 locs3 hH3 => ?_)
  exact lv_icmp_eq (tgt := 905) hx hb dL_law_472 (by decide) (fun _ => kk H3 locs3 τ3 _ _ _ ls _ _ (LJ_self hJ3) hH3 hls) (fun q => absurd rfl q)
set_option maxHeartbeats 4000000 in
theorem law_loop {p : Program} {l : Launch} {e : Env} {s : State} {m : MethodId} {below : List Frame} {meth : Method} {c : Code} {b L : Nat} {xs : Nat → Int32} {D : va_G} {g : Nat → Nat} {gL x mm : Nat} (hl : l.stackTraces = false) (C0 : lw_At p s m meth c b L xs) (hL : L ≤ 192) (hC : LwC D g gL s) : ∀ (k n : Nat), 4 * n ≤ L → L < 4 * n + 4 * k → LwK p l e s m below meth c b D g gL x mm (lw_Z below #[Value.ref b] s) n (4 * n) 23 := by
  intro k
  induction k with
  | zero => exact fun n h1 h2 => absurd h2 (by omega)
  | succ k ih =>
    intro n h1 h2 H locs σ st t ov ls v5 v6 hJ hH hls
    obtain ⟨hx, hb, hr, hml, hown, hts, hX, hbl, hlocks, hgv⟩ := id C0
    have hbA : ¬ A0 s b := Nat.not_le.mpr hbl
    refine z_il hx hb hls dL_law_23 rfl ?_
    refine z_aln hx hb hls dL_law_25 rfl ?_
    refine va_slen hx hb hX hbl hbA hH.2.2.1 dL_law_26 ?_
    refine lv_iconst (v := 4) hx hb dL_law_27 (by decide) ?_
    refine lv_isub hx hb dL_law_28 ?_
    refine lv_icmp_gt (tgt := 911) hx hb dL_law_29 (by decide) (fun _ => ?_) (fun hq => ?_)
    · refine lv_iconst (v := 1) hx hb dL_law_911 (by decide) ?_
      refine va_forget (fun q hq => hH.2.2.1.2.2 q hq) ?_
      have hrm := hJ.room (by omega)
      refine W.widen (k := 600096) (n := 7301385) (by omega) (by omega) ?_
      exact lw_ret hx hb hr hlocks dL_law_912
    · have hi : 4 * n + 4 ≤ L := by
        rcases Nat.lt_or_ge L (4 * n + 4) with q | q
        · refine absurd ?_ hq
          have e1 : (Int32.ofNat L - 4 : Int32) = iI ((L : Int) - 4) := by rw [← iI_sub]; rfl
          have e2 : nI (4 * n) = iI ((4 * n : Nat) : Int) := rfl
          rw [e1, e2]
          exact (iI_lt (by omega) (by omega)).mpr (by omega)
        · exact q
      have hn : n ≤ 47 := by omega
      refine z_aln hx hb hls dL_law_32 rfl ?_
      refine z_il hx hb hls dL_law_33 rfl ?_
      refine va_sld hx hb hX hbl hbA hH.2.2.1 (vp_in_nI (by omega) (by omega)) dL_law_35 ?_
      refine lv_bipush (v := 15) hx hb dL_law_36 (by decide) ?_
      refine lv_iand hx hb dL_law_38 ?_
      have kk : LwK p l e s m below meth c b D g gL x mm (lw_Z below #[Value.ref b] s) (n + 1) (4 * n) 905 := by
        intro H locs σ st t ov ls v5 v6 hJ hH hls
        refine z_inc hx hb hls dL_law_905 (Nat.le_of_ble_eq_true rfl) rfl (fun ls2 hls2 => ?_)
        refine lv_goto (tgt := 23) hx hb dL_law_908 (by decide) ?_
        have hls2 : lsR ls2 [some (.ref b), some (.ref x), some (.ref mm), some (.ref (mm + 26)), some (.int (nI (4 * (n + 1)))), v5, v6] := by
          have e : nI (4 * (n + 1)) = nI (4 * n) + Int32.ofInt 4 := by rw [show 4 * (n + 1) = 4 * n + 4 from rfl, ← nI_add]; rfl
          rw [e]
          exact hls2
        exact ih (n + 1) (by omega) (by omega) H locs σ st t ov ls2 v5 v6 hJ hH hls2
      generalize xs (nI (4 * n)).toNatClampNeg &&& 15 = w
      by_cases hw : w.toInt < 0 ∨ 13 < w.toInt
      · exact lv_tableOut (tgt := 905) hx hb dL_law_39 hw (by decide) (kk H locs σ st t ov ls v5 v6 (LJ_self hJ) hH hls)
      · obtain ⟨j, hj, ej⟩ : ∃ j : Nat, j < 14 ∧ w.toInt = (j : Int) := ⟨w.toInt.toNat, by omega, by omega⟩
        have h1 : ¬ w.toInt < 0 := fun q => hw (Or.inl q)
        have h2 : ¬ 13 < w.toInt := fun q => hw (Or.inr q)
        rcases (show j = 0 ∨ j = 1 ∨ j = 2 ∨ j = 3 ∨ j = 4 ∨ j = 5 ∨ j = 6 ∨ j = 7 ∨ j = 8 ∨ j = 9 ∨ j = 10 ∨ j = 11 ∨ j = 12 ∨ j = 13 by omega) with rfl | rfl | rfl | rfl | rfl | rfl | rfl | rfl | rfl | rfl | rfl | rfl | rfl | rfl
        · exact lv_tableIn (tgt := 108) hx hb dL_law_39 h1 h2 (by rw [ej]; rfl) (by decide) (lc_entry hl C0 hL hC hn hi kk H locs σ st t ov ls v5 v6 hJ hH hls)
        · exact lv_tableIn (tgt := 164) hx hb dL_law_39 h1 h2 (by rw [ej]; rfl) (by decide) (lc_key hl C0 hL hC hn hi kk H locs σ st t ov ls v5 v6 hJ hH hls)
        · exact lv_tableIn (tgt := 212) hx hb dL_law_39 h1 h2 (by rw [ej]; rfl) (by decide) (lc_field hl C0 hL hC hn hi kk H locs σ st t ov ls v5 v6 hJ hH hls)
        · exact lv_tableIn (tgt := 272) hx hb dL_law_39 h1 h2 (by rw [ej]; rfl) (by decide) (lc_cite hl C0 hL hC hn hi kk H locs σ st t ov ls v5 v6 hJ hH hls)
        · exact lv_tableIn (tgt := 328) hx hb dL_law_39 h1 h2 (by rw [ej]; rfl) (by decide) (lc_cross hl C0 hL hC hn hi kk H locs σ st t ov ls v5 v6 hJ hH hls)
        · exact lv_tableIn (tgt := 396) hx hb dL_law_39 h1 h2 (by rw [ej]; rfl) (by decide) (lc_style hl C0 hL hC hn hi kk H locs σ st t ov ls v5 v6 hJ hH hls)
        · exact lv_tableIn (tgt := 464) hx hb dL_law_39 h1 h2 (by rw [ej]; rfl) (by decide) (lc_run hl C0 hL hC hn hi kk H locs σ st t ov ls v5 v6 hJ hH hls)
        · exact lv_tableIn (tgt := 477) hx hb dL_law_39 h1 h2 (by rw [ej]; rfl) (by decide) (lc_row hl C0 hL hC hn hi kk H locs σ st t ov ls v5 v6 hJ hH hls)
        · exact lv_tableIn (tgt := 533) hx hb dL_law_39 h1 h2 (by rw [ej]; rfl) (by decide) (lc_letter hl C0 hL hC hn hi kk H locs σ st t ov ls v5 v6 hJ hH hls)
        · exact lv_tableIn (tgt := 589) hx hb dL_law_39 h1 h2 (by rw [ej]; rfl) (by decide) (lc_initials hl C0 hL hC hn hi kk H locs σ st t ov ls v5 v6 hJ hH hls)
        · exact lv_tableIn (tgt := 669) hx hb dL_law_39 h1 h2 (by rw [ej]; rfl) (by decide) (lc_missing hl C0 hL hC hn hi kk H locs σ st t ov ls v5 v6 hJ hH hls)
        · exact lv_tableIn (tgt := 737) hx hb dL_law_39 h1 h2 (by rw [ej]; rfl) (by decide) (lc_print hl C0 hL hC hn hi kk H locs σ st t ov ls v5 v6 hJ hH hls)
        · exact lv_tableIn (tgt := 793) hx hb dL_law_39 h1 h2 (by rw [ej]; rfl) (by decide) (lc_at hl C0 hL hC hn hi kk H locs σ st t ov ls v5 v6 hJ hH hls)
        · exact lv_tableIn (tgt := 849) hx hb dL_law_39 h1 h2 (by rw [ej]; rfl) (by decide) (lc_twice hl C0 hL hC hn hi kk H locs σ st t ov ls v5 v6 hJ hH hls)
