/-! the law's loop -/
theorem gW_in : ∀ w ∈ gW, w ∈ lw_tbl := fun w h => (List.mem_filter.mp h).1
theorem LJ.o {g : Nat → Nat} {h0 x mm n : Nat} {σ : PS} {s1 s2 : ST} {t : Int} (h : LJ g h0 σ x mm n s1 s2 t) : mm + 26 < zN σ ∧ ¬ Ar σ (mm + 26) ∧ h0 ≤ mm + 26 := by
  obtain ⟨-, -, -, h1, h2, h3, -⟩ := h
  refine ⟨by omega, fun q => ?_, by omega⟩
  rcases q with q | q
  · unfold live at q
    omega
  · omega
theorem LJ.s {g : Nat → Nat} {h0 x mm n : Nat} {σ : PS} {s1 s2 : ST} {t : Int} (h : LJ g h0 σ x mm n s1 s2 t) : 8 * h0 ≤ zS σ := h.2.2.2.2.2.2
theorem LJ_self {g : Nat → Nat} {h0 x mm n : Nat} {σ : PS} {s1 s2 : ST} {t : Int} (h : LJ g h0 σ x mm n s1 s2 t) : LJ g h0 σ x mm (n + 1) s1 s2 t :=
  LJ_bump (N' := zN σ) (S' := zS σ) h ⟨Nat.le_refl _, by omega⟩ ⟨Nat.le_refl _, by omega⟩
def LK (p : Program) (l : Launch) (e : Env) (s : State) (m : MethodId) (below : List Frame) (meth : Method) (c : Code) (b : Nat) (D : va_G) (g : Nat → Nat) (gL x mm : Nat) (Q : State → Prop) (n i pc : Nat) : Prop :=
  ∀ (H : Heap) (locs : List Loc) (σ : PS) (st : ST) (t : Int) (ov : Int64) (ls : Array Slot) (v5 v6 : Option Value), LJ g s.heap.size σ x mm n st st t → LH D g gL s σ (mm + 26) ov H locs →
    lsR ls [some (.ref b), some (.ref x), some (.ref mm), some (.ref (mm + 26)), some (.int (nI i)), v5, v6] →
    W p l e room_1 s m #[Value.ref b] below meth c H locs (zN σ - s.heap.size) (zS σ - 8 * s.heap.size) Q (F0 m pc ls [])
section Loop
variable {p : Program} {l : Launch} {e : Env} {s : State} {m : MethodId} {below : List Frame} {meth : Method} {c : Code} {b L : Nat} {xs : Nat → Int32} {H : Heap} {locs : List Loc} {Q : State → Prop} {cells slots : Nat}
variable {D : va_G} {g : Nat → Nat} {gL x mm n i pc : Nat} {ls : Array Slot} {lf : LV} {rest : List Value} {σ : PS} {ov : Int64}
theorem z_arg {k : Int} {j : Nat} (hx : p.tables.exec = Jvm.exec) (hb : c.code = code) (hX : va_X b L xs s s.heap) (hbl : b < s.heap.size) (hS : va_S (A0 s) s.heap H locs) (h : lsR ls lf) (h0 : lf[0]? = some (some (.ref b))) (h4 : lf[4]? = some (some (.int (nI i)))) (hk : Int32.ofInt k = nI j) (hi : i + j < L) (hL : L ≤ 192)
    (d0 : decode code pc = .ok (.aload_n 0, 1)) (d1 : decode code (pc + 1) = .ok (.iload 4, 2)) (d2 : decode code (pc + 1 + 2) = .ok (.iconst k, 1)) (d3 : decode code (pc + 1 + 2 + 1) = .ok (.iadd, 1)) (d4 : decode code (pc + 1 + 2 + 1 + 1) = .ok (.iaload, 1))
    (kk : W p l e room_1 s m #[Value.ref b] below meth c H locs cells slots Q (F0 m (pc + 1 + 2 + 1 + 1 + 1) ls (.int (iI (xs (i + j)).toInt) :: rest))) : W p l e room_1 s m #[Value.ref b] below meth c H locs cells slots Q (F0 m pc ls rest) := by
  refine z_aln hx hb h d0 h0 ?_
  refine z_il hx hb h d1 h4 ?_
  refine lv_iconst (v := nI j) hx hb d2 hk ?_
  refine lv_iadd hx hb d3 ?_
  rw [nI_add]
  have hbA : ¬ A0 s b := Nat.not_le.mpr hbl
  refine va_sld hx hb hX hbl hbA hS (vp_in_nI hi (by omega)) d4 ?_
  rw [nI_clamp (by omega)]
  rw [iI_of] at kk
  exact kk
theorem z_thr {S0 : Nat} {s1 s2 : ST} {t : Int} {i2 : Nat} (hl : l.stackTraces = false) (X : CallFix p m c code 7 s #[Value.ref b] gW RL) (hC : LC D g gL s) (hn : n ≤ 49) (hJ : LJ g s.heap.size σ x mm n s1 s2 t) (hH : LH D g gL s σ (mm + 26) ov H locs) (hls : lsR ls lf) (hlf : lf.length = 7) (h2 : lf[2]? = some (some (.ref mm))) (hi2 : i2 = 71) (hS0 : S0 = 8 * s.heap.size)
    (d0 : decode code pc = .ok (.aload_n 2, 1)) (d1 : decode code (pc + 1) = .ok (.invokevirtual i2, 3))
    (kk : ∀ (H : Heap) (locs : List Loc) (σ : PS), LJ g s.heap.size σ x mm n s1 s2 t → LH D g gL s σ (mm + 26) ov H locs → W p l e room_1 s m #[Value.ref b] below meth c H locs (zN σ - s.heap.size) (zS σ - S0) Q (F0 m (pc + 1 + 3) ls [.int (iI t)])) :
    W p l e room_1 s m #[Value.ref b] below meth c H locs (zN σ - s.heap.size) (zS σ - S0) Q (F0 m pc ls []) := by
  subst hi2
  subst hS0
  obtain ⟨hx, hb, -⟩ := id X
  refine z_aln hx hb hls d0 h2 ?_
  obtain ⟨N3, τ3, hrun3, hJ3, en, es⟩ := LJ_ref (kr := 92) (ls := [some (.ref mm)]) (r := Sum.inl (some (.int (iI t)))) (s2' := s2) (t' := t) hJ (fun C S A v Q hv ht hq => v92_0 (by rw [ht]; exact hq v ht hv))
  have hr3 := hJ3.room hn
  have hs := hJ.s
  exact L_ref (As := []) hl X hC hH ⟨hJ.o.1, hJ.o.2.1⟩ hs ⟨by omega, by omega⟩ (by omega) (by omega) hrun3 (by decide) (by decide) rfl rfl (by decide) hJ.km gK_92 rfl (by decide) (hls.1.trans hlf) (by decide) d1 (fun H3 locs3 hH3 => kk H3 locs3 τ3 hJ3 hH3)
/-- behind a call with an answer -/
theorem T_out {st : ST} {t zb : Int} {off : Int} {v : Option Value} (hl : l.stackTraces = false) (X : CallFix p m c code 7 s #[Value.ref b] gW RL) (hC : LC D g gL s) (hn : n ≤ 49) (hJ : LJ g s.heap.size σ x mm n st st t) (hH : LH D g gL s σ (mm + 26) ov H locs) (hov : iI t = 0 → ov = (iI zb).toInt64)
    (hls : lsR ls [some (.ref b), some (.ref x), some (.ref mm), some (.ref (mm + 26)), some (.int (nI i)), some (.int (iI t)), some (.int (iI zb))]) (kk : LK p l e s m below meth c b D g gL x mm Q n i 905)
    (d0 : decode code pc = .ok (.aload_n 2, 1)) (d1 : decode code (pc + 1) = .ok (.invokevirtual 71, 3)) (d2 : decode code (pc + 4) = .ok (.iload 5, 2)) (d3 : decode code (pc + 6) = .ok (.if_icmp .eq 5, 3)) (d4 : decode code (pc + 11) = .ok (.iload 5, 2)) (d5 : decode code (pc + 13) = .ok (.ifCond .ne 15, 3)) (d6 : decode code (pc + 16) = .ok (.aload_n 3, 1)) (d7 : decode code (pc + 17) = .ok (.iconst 0, 1)) (d8 : decode code (pc + 18) = .ok (.laload, 1)) (d9 : decode code (pc + 19) = .ok (.iload 6, 2)) (d10 : decode code (pc + 21) = .ok (.i2l, 1)) (d11 : decode code (pc + 22) = .ok (.lcmp, 1)) (d12 : decode code (pc + 23) = .ok (.ifCond .eq 5, 3)) (d13 : decode code (pc + 28) = .ok (.goto off, 3)) (hoff : ((pc + 28 : Nat) : Int) + off = ((905 : Nat) : Int)) :
    W p l e room_1 s m #[Value.ref b] below meth c H locs (zN σ - s.heap.size) (zS σ - 8 * s.heap.size) Q (F0 m pc ls []) := by
  obtain ⟨hx, hb, -⟩ := id X
  refine z_thr hl X hC hn hJ hH hls rfl rfl rfl rfl d0 d1 (fun H locs σ hJ hH => ?_)
  refine z_il hx hb hls d2 rfl ?_
  refine lv_icmp_eq (tgt := pc + 11) hx hb d3 (by omega) (fun _ => ?_) (fun q => absurd rfl q)
  refine z_il hx hb hls d4 rfl ?_
  have fin : W p l e room_1 s m #[Value.ref b] below meth c H locs (zN σ - s.heap.size) (zS σ - 8 * s.heap.size) Q (F0 m (pc + 28) ls []) := lv_goto (tgt := 905) hx hb d13 hoff (kk H locs σ st t ov ls _ _ hJ hH hls)
  refine lv_if_ne (tgt := pc + 28) hx hb d5 (by omega) (fun _ => fin) (fun q => ?_)
  refine z_aln hx hb hls d6 rfl ?_
  refine lv_iconst (v := 0) hx hb d7 (by decide) ?_
  obtain ⟨-, -, -, -, f, hf, hP⟩ := id hH
  refine va_lald hx hb hC.2.2.1 hP 0 0 rfl rfl (fun q => q.elim (by decide) (by decide)) d8 ?_
  refine z_il hx hb hls d9 rfl ?_
  refine lv_i2l hx hb d10 rfl ?_
  refine W.lcmp hx hb d11 ?_
  have e0 : lg_cmp (f (0 : Int32).toNatClampNeg) (iI zb).toInt64 = 0 := by
    have e1 : f (0 : Int32).toNatClampNeg = (iI zb).toInt64 := (show f 0 = _ from hf).trans (hov q)
    rw [e1]
    simp [lg_cmp]
  rw [e0]
  exact lv_if_eq (tgt := pc + 28) hx hb d12 (by omega) (fun _ => fin) (fun q => absurd rfl q)
/-- behind a call without one -/
theorem T_no {st : ST} {t : Int} {off : Int} {v6 : Option Value} (hl : l.stackTraces = false) (X : CallFix p m c code 7 s #[Value.ref b] gW RL) (hC : LC D g gL s) (hn : n ≤ 49) (hJ : LJ g s.heap.size σ x mm n st st t) (hH : LH D g gL s σ (mm + 26) ov H locs)
    (hls : lsR ls [some (.ref b), some (.ref x), some (.ref mm), some (.ref (mm + 26)), some (.int (nI i)), some (.int (iI t)), v6]) (kk : LK p l e s m below meth c b D g gL x mm Q n i 905)
    (d0 : decode code pc = .ok (.aload_n 2, 1)) (d1 : decode code (pc + 1) = .ok (.invokevirtual 71, 3)) (d2 : decode code (pc + 4) = .ok (.iload 5, 2)) (d3 : decode code (pc + 6) = .ok (.if_icmp .eq 5, 3)) (d13 : decode code (pc + 11) = .ok (.goto off, 3)) (hoff : ((pc + 11 : Nat) : Int) + off = ((905 : Nat) : Int)) :
    W p l e room_1 s m #[Value.ref b] below meth c H locs (zN σ - s.heap.size) (zS σ - 8 * s.heap.size) Q (F0 m pc ls []) := by
  obtain ⟨hx, hb, -⟩ := id X
  refine z_thr hl X hC hn hJ hH hls rfl rfl rfl rfl d0 d1 (fun H locs σ hJ hH => ?_)
  refine z_il hx hb hls d2 rfl ?_
  refine lv_icmp_eq (tgt := pc + 11) hx hb d3 (by omega) (fun _ => ?_) (fun q => absurd rfl q)
  exact lv_goto (tgt := 905) hx hb d13 hoff (kk H locs σ st t ov ls _ _ hJ hH hls)
end Loop
theorem i0_of {z : Int} (h : 0 ≤ z ∧ z ≤ 4) (h0 : iI z = 0) : z = 0 := by
  have := iI_toInt (z := z) (by omega)
  rw [h0] at this
  exact this.symm
theorem zr_entry (s : ST) (a1 : Int) : (x0 s a1).1 = 0 ∨ (x0 s a1).1 = 1 := by
  unfold x0
  repeat' split
  all_goals simp
theorem zr_key (s : ST) (a1 a2 : Int) : (x1 s a1 a2).1 = 0 ∨ (x1 s a1 a2).1 = 1 ∨ (x1 s a1 a2).1 = 2 ∨ (x1 s a1 a2).1 = 3 := by
  unfold x1
  repeat' split
  all_goals simp
set_option maxHeartbeats 2000000 in
theorem lc_entry {p : Program} {l : Launch} {e : Env} {s : State} {m : MethodId} {below : List Frame} {meth : Method} {c : Code} {b L : Nat} {xs : Nat → Int32} {Q : State → Prop} {D : va_G} {g : Nat → Nat} {gL x mm n : Nat} (hl : l.stackTraces = false) (C0 : lw_At p s m meth c b L xs) (hL : L ≤ 192) (hC : LC D g gL s) (hn : n ≤ 47) (hi : 4 * n + 4 ≤ L) (kk : LK p l e s m below meth c b D g gL x mm Q (n + 1) (4 * n) 905) : LK p l e s m below meth c b D g gL x mm Q n (4 * n) 108 := by
  intro H locs σ st t ov ls v5 v6 hJ hH hls
  obtain ⟨hx, hb, hr, hml, hown, hts, hX, hbl, hlocks, hgv⟩ := C0
  have X : CallFix p m c code 7 s #[Value.ref b] gW RL := ⟨hx, hb, hml, hown, fun w hw => hts w (gW_in w hw)⟩
  refine z_aln hx hb hls dL_law_108 rfl ?_
  refine z_arg (j := 1) hx hb hX hbl hH.2.2.1 hls rfl rfl (by decide) (by omega) hL dL_law_109 dL_law_110 dL_law_112 dL_law_113 dL_law_114 ?_
  refine z_aln hx hb hls dL_law_115 rfl ?_
  obtain ⟨N, τ, hrun, hJ1, hm1, hm2⟩ := LJ_cls (kc := 67) (ls := [some (.ref x), some (.int (iI (xs (4 * n + 1)).toInt)), none]) (r := rzI [3] (x0 st (xs (4 * n + 1)).toInt)) (s1' := (x0 st (xs (4 * n + 1)).toInt).2.2) (by omega) hJ (fun U c ℓ A Es Rw B O Q h hB hQ => k67 h hB (iI_R _) hQ)
  have hr1 := hJ1.room (by omega)
  have hs1 := hJ.s
  refine L_help (As := [.ref x, .int (iI (xs (4 * n + 1)).toInt), .ref (mm + 26)]) (rest := []) (S0 := 8 * s.heap.size) X hC hH hJ.o hs1 ⟨hm1, hm2⟩ (by omega) (by omega) (h_entry (sound hl D g _ _ N 67 [.ref x, .int (iI (xs (4 * n + 1)).toInt)] σ _ τ (by decide) (by decide) hrun) rfl (zr_entry _ _) hJ.kx.1 ⟨hm1, hm2⟩) gL_entry.1 gL_entry.2.1 gL_entry.2.2 rfl (by decide +kernel) (by decide) hls.1 (by decide) dL_law_116 (fun N2 H1 locs1 q1 q2 hH1 => ?_)
  have hJ2 := LJ_bump (N' := N2) (S' := zS τ + 6) hJ1 ⟨q1, q2⟩ ⟨by omega, by omega⟩
  generalize ((N2, zS τ + 6, τ.2.2) : PS) = σ2 at hJ2 hH1 ⊢
  refine z_is hx hb hls dL_law_119 (Nat.le_of_ble_eq_true rfl) (fun ls2 hls2 => ?_)
  have hls2 : lsR ls2 [some (.ref b), some (.ref x), some (.ref mm), some (.ref (mm + 26)), some (.int (nI (4 * n))), some (.int (iI (x0 st (xs (4 * n + 1)).toInt).1)), v6] := hls2
  refine z_aln hx hb hls2 dL_law_121 rfl ?_
  refine z_arg (j := 1) hx hb hX hbl hH1.2.2.1 hls2 rfl rfl (by decide) (by omega) hL dL_law_122 dL_law_123 dL_law_125 dL_law_126 dL_law_127 ?_
  obtain ⟨N3, τ3, hrun3, hJ3, en, es⟩ := LJ_ref (kr := 94) (ls := [some (.ref mm), some (.int (iI (xs (4 * n + 1)).toInt))]) (r := Sum.inl (some (.int (iI (x0 st (xs (4 * n + 1)).toInt).2.1)))) (s2' := (x0 st (xs (4 * n + 1)).toInt).2.2) (t' := (x0 st (xs (4 * n + 1)).toInt).1) hJ2 (fun C S A v Q hv _ hq => s94 (iI_R _) hv hq)
  have hr3 := hJ3.room (by omega)
  have hs2 := hJ2.s
  refine L_ref (As := [.int (iI (xs (4 * n + 1)).toInt)]) (rest := []) hl X hC hH1 ⟨hJ2.o.1, hJ2.o.2.1⟩ hs2 ⟨by omega, by omega⟩ (by omega) (by omega) hrun3 (by decide) (by decide) rfl rfl (by decide) hJ2.km gK_94 rfl (by decide) hls2.1 (by decide) dL_law_128 (fun H3 locs3 hH3 => ?_)
  refine z_is hx hb hls2 dL_law_131 (Nat.le_of_ble_eq_true rfl) (fun ls3 hls3 => ?_)
  have hz := zr_entry st (xs (4 * n + 1)).toInt
  exact T_out (zb := (x0 st (xs (4 * n + 1)).toInt).2.1) hl X hC (by omega) hJ3 hH3 (fun h => by rw [if_pos (i0_of (by omega) h)]) hls3 kk dL_law_133 dL_law_134 dL_law_137 dL_law_139 dL_law_144 dL_law_146 dL_law_149 dL_law_150 dL_law_151 dL_law_152 dL_law_154 dL_law_155 dL_law_156 dL_law_161 (by decide)
set_option maxHeartbeats 2000000 in
theorem lc_key {p : Program} {l : Launch} {e : Env} {s : State} {m : MethodId} {below : List Frame} {meth : Method} {c : Code} {b L : Nat} {xs : Nat → Int32} {Q : State → Prop} {D : va_G} {g : Nat → Nat} {gL x mm n : Nat} (hl : l.stackTraces = false) (C0 : lw_At p s m meth c b L xs) (hL : L ≤ 192) (hC : LC D g gL s) (hn : n ≤ 47) (hi : 4 * n + 4 ≤ L) (kk : LK p l e s m below meth c b D g gL x mm Q (n + 1) (4 * n) 905) : LK p l e s m below meth c b D g gL x mm Q n (4 * n) 164 := by
  intro H locs σ st t ov ls v5 v6 hJ hH hls
  obtain ⟨hx, hb, hr, hml, hown, hts, hX, hbl, hlocks, hgv⟩ := C0
  have X : CallFix p m c code 7 s #[Value.ref b] gW RL := ⟨hx, hb, hml, hown, fun w hw => hts w (gW_in w hw)⟩
  refine z_aln hx hb hls dL_law_164 rfl ?_
  refine z_arg (j := 1) hx hb hX hbl hH.2.2.1 hls rfl rfl (by decide) (by omega) hL dL_law_165 dL_law_166 dL_law_168 dL_law_169 dL_law_170 ?_
  refine z_arg (j := 2) hx hb hX hbl hH.2.2.1 hls rfl rfl (by decide) (by omega) hL dL_law_171 dL_law_172 dL_law_174 dL_law_175 dL_law_176 ?_
  obtain ⟨N, τ, hrun, hJ1, hm1, hm2⟩ := LJ_cls (kc := 68) (ls := [some (.ref x), some (.int (iI (xs (4 * n + 1)).toInt)), some (.int (iI (xs (4 * n + 2)).toInt))]) (r := rzV [0, 2, 3] (x1 st (xs (4 * n + 1)).toInt (xs (4 * n + 2)).toInt)) (s1' := (x1 st (xs (4 * n + 1)).toInt (xs (4 * n + 2)).toInt).2.2) (by omega) hJ (fun U c ℓ A Es Rw B O Q h hB hQ => k68 h hB (iI_R _) (iI_R _) hQ)
  have hr1 := hJ1.room (by omega)
  have hs1 := hJ.s
  refine L_help (As := [.ref x, .int (iI (xs (4 * n + 1)).toInt), .int (iI (xs (4 * n + 2)).toInt)]) (rest := []) (S0 := 8 * s.heap.size) X hC hH hJ.o hs1 ⟨hm1, hm2⟩ (by omega) (by omega) (h_key (sound hl D g _ _ N 68 [.ref x, .int (iI (xs (4 * n + 1)).toInt), .int (iI (xs (4 * n + 2)).toInt)] σ _ τ (by decide) (by decide) hrun) rfl (zr_key _ _ _) hJ.kx.1 ⟨hm1, hm2⟩) gL_key.1 gL_key.2.1 gL_key.2.2 rfl (by decide +kernel) (by decide) hls.1 (by decide) dL_law_177 (fun N2 H1 locs1 q1 q2 hH1 => ?_)
  have hJ2 := LJ_bump (N' := N2) (S' := zS τ + 6) hJ1 ⟨q1, q2⟩ ⟨by omega, by omega⟩
  generalize ((N2, zS τ + 6, τ.2.2) : PS) = σ2 at hJ2 hH1 ⊢
  refine z_is hx hb hls dL_law_180 (Nat.le_of_ble_eq_true rfl) (fun ls2 hls2 => ?_)
  have hls2 : lsR ls2 [some (.ref b), some (.ref x), some (.ref mm), some (.ref (mm + 26)), some (.int (nI (4 * n))), some (.int (iI (x1 st (xs (4 * n + 1)).toInt (xs (4 * n + 2)).toInt).1)), v6] := hls2
  refine z_aln hx hb hls2 dL_law_182 rfl ?_
  refine z_arg (j := 1) hx hb hX hbl hH1.2.2.1 hls2 rfl rfl (by decide) (by omega) hL dL_law_183 dL_law_184 dL_law_186 dL_law_187 dL_law_188 ?_
  refine z_arg (j := 2) hx hb hX hbl hH1.2.2.1 hls2 rfl rfl (by decide) (by omega) hL dL_law_189 dL_law_190 dL_law_192 dL_law_193 dL_law_194 ?_
  obtain ⟨N3, τ3, hrun3, hJ3, en, es⟩ := LJ_ref (kr := 98) (ls := [some (.ref mm), some (.int (iI (xs (4 * n + 1)).toInt)), some (.int (iI (xs (4 * n + 2)).toInt)), none]) (r := Sum.inl none) (s2' := (x1 st (xs (4 * n + 1)).toInt (xs (4 * n + 2)).toInt).2.2) (t' := (x1 st (xs (4 * n + 1)).toInt (xs (4 * n + 2)).toInt).1) hJ2 (fun C S A v Q hv _ hq => s98 (iI_R _) (iI_R _) hv hq)
  have hr3 := hJ3.room (by omega)
  have hs2 := hJ2.s
  refine L_refv (As := [.int (iI (xs (4 * n + 1)).toInt), .int (iI (xs (4 * n + 2)).toInt)]) (rest := []) hl X hC hH1 ⟨hJ2.o.1, hJ2.o.2.1⟩ hs2 ⟨by omega, by omega⟩ (by omega) (by omega) hrun3 (by decide) (by decide) rfl rfl (by decide) hJ2.km gK_98 rfl (by decide) hls2.1 (by decide) dL_law_195 (fun H3 locs3 hH3 => ?_)
  exact T_no hl X hC (by omega) hJ3 hH3 hls2 kk dL_law_198 dL_law_199 dL_law_202 dL_law_204 dL_law_209 (by decide)
