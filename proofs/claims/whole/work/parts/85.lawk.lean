/-! THE LAW AT THE MACHINE'S LEVEL: steps, calls -/
section ZW
variable {p : Program} {l : Launch} {e : Env} {R : Room} {s : State} {m : MethodId} {args : Array Value} {below : List Frame} {meth : Method} {c : Code} {H : Heap} {locs : List Loc} {cells slots : Nat} {Q : State → Prop}
variable {cc : ByteArray} {pc : Nat} {ls : Array Slot} {lf : LV} {rest : List Value}
theorem z_il (hx : p.tables.exec = Jvm.exec) (hb : c.code = cc) (h : lsR ls lf) {i : Nat} {x : Int32} (hdg : decode cc pc = .ok (.iload i, 2)) (hi : lf[i]? = some (some (.int x)))
    (kk : W p l e R s m args below meth c H locs cells slots Q (F0 m (pc + 2) ls (.int x :: rest))) : W p l e R s m args below meth c H locs cells slots Q (F0 m pc ls rest) := lv_iload hx hb hdg (h.2.2 i _ hi) kk
theorem z_iln (hx : p.tables.exec = Jvm.exec) (hb : c.code = cc) (h : lsR ls lf) {i : Fin 4} {x : Int32} (hdg : decode cc pc = .ok (.iload_n i, 1)) (hi : lf[(i : Nat)]? = some (some (.int x)))
    (kk : W p l e R s m args below meth c H locs cells slots Q (F0 m (pc + 1) ls (.int x :: rest))) : W p l e R s m args below meth c H locs cells slots Q (F0 m pc ls rest) := lv_iload_n hx hb hdg rfl (h.2.2 i _ hi) kk
theorem z_aln (hx : p.tables.exec = Jvm.exec) (hb : c.code = cc) (h : lsR ls lf) {i : Fin 4} {a : Nat} (hdg : decode cc pc = .ok (.aload_n i, 1)) (hi : lf[(i : Nat)]? = some (some (.ref a)))
    (kk : W p l e R s m args below meth c H locs cells slots Q (F0 m (pc + 1) ls (.ref a :: rest))) : W p l e R s m args below meth c H locs cells slots Q (F0 m pc ls rest) := w_aload_n (r := some a) hx hb hdg (h.2.2 i _ hi) kk
theorem z_al (hx : p.tables.exec = Jvm.exec) (hb : c.code = cc) (h : lsR ls lf) {i : Nat} {a : Nat} (hdg : decode cc pc = .ok (.aload i, 2)) (hi : lf[i]? = some (some (.ref a)))
    (kk : W p l e R s m args below meth c H locs cells slots Q (F0 m (pc + 2) ls (.ref a :: rest))) : W p l e R s m args below meth c H locs cells slots Q (F0 m pc ls rest) := w_aload (r := some a) hx hb hdg (h.2.2 i _ hi) kk
theorem z_is (hx : p.tables.exec = Jvm.exec) (hb : c.code = cc) (h : lsR ls lf) {i : Nat} {x : Int32} (hdg : decode cc pc = .ok (.istore i, 2)) (hi : i < lf.length)
    (kk : ∀ ls', lsR ls' (stl lf i (.int x)) → W p l e R s m args below meth c H locs cells slots Q (F0 m (pc + 2) ls' rest)) : W p l e R s m args below meth c H locs cells slots Q (F0 m pc ls (.int x :: rest)) := lv_istore hx hb hdg h.has hi rfl (fun ls' hl' => kk ls' (lsR_stl (ls := ls) hi hl'))
theorem z_as (hx : p.tables.exec = Jvm.exec) (hb : c.code = cc) (h : lsR ls lf) {i : Nat} {a : Nat} (hdg : decode cc pc = .ok (.astore i, 2)) (hi : i < lf.length)
    (kk : ∀ ls', lsR ls' (stl lf i (.ref a)) → W p l e R s m args below meth c H locs cells slots Q (F0 m (pc + 2) ls' rest)) : W p l e R s m args below meth c H locs cells slots Q (F0 m pc ls (.ref a :: rest)) := w_astore (r := some a) hx hb hdg h.has hi (fun ls' hl' => kk ls' (lsR_stl (ls := ls) hi hl'))
theorem z_asn (hx : p.tables.exec = Jvm.exec) (hb : c.code = cc) (h : lsR ls lf) {i : Fin 4} {a : Nat} (hdg : decode cc pc = .ok (.astore_n i, 1)) (hi : (i : Nat) < lf.length)
    (kk : ∀ ls', lsR ls' (stl lf i (.ref a)) → W p l e R s m args below meth c H locs cells slots Q (F0 m (pc + 1) ls' rest)) : W p l e R s m args below meth c H locs cells slots Q (F0 m pc ls (.ref a :: rest)) := w_astore_n (r := some a) hx hb hdg h.has hi (fun ls' hl' => kk ls' (lsR_stl (ls := ls) hi hl'))
theorem z_inc (hx : p.tables.exec = Jvm.exec) (hb : c.code = cc) (h : lsR ls lf) {i : Nat} {n : Int} {x : Int32} (hdg : decode cc pc = .ok (.iinc i n, 3)) (hi : i < lf.length) (hv : lf[i]? = some (some (.int x)))
    (kk : ∀ ls', lsR ls' (stl lf i (.int (x + Int32.ofInt n))) → W p l e R s m args below meth c H locs cells slots Q (F0 m (pc + 3) ls' rest)) : W p l e R s m args below meth c H locs cells slots Q (F0 m pc ls rest) := by
  obtain ⟨j, hj⟩ := List.getElem?_of_mem (pr_mem.mpr hv)
  exact lv_iinc hx hb hdg h.has hj rfl hi rfl (fun ls' hl' => kk ls' (lsR_stl (ls := ls) hi hl'))
end ZW
section CatchW
variable {p : Program} {l : Launch} {e : Env} {R : Room} {s : State} {m : MethodId} {args : Array Value} {below : List Frame} {meth : Method} {c : Code} {H : Heap} {locs : List Loc} {cells slots : Nat} {Q : State → Prop}
variable {pc : Nat} {ls : Array Slot} {rest : List Value}
theorem vx_catch {own name : String} {E : String} {ce : Cell} {q : Addr} (hown : s.vm.findClass own = some m.cls) (pre : List ExceptionTableEntry) (x : ExceptionTableEntry) (suf : List ExceptionTableEntry) (hsplit : c.exceptionTable.toList = pre ++ x :: suf)
    (hpass : ∀ z ∈ pre, covers z pc = false ∨ (z.catchType ≠ 0 ∧ ∃ nm : String, (Cond.classLink own z.catchType nm).before args s = true ∧ va_Nc E nm s)) (hx : covers x pc = true) (h0 : x.catchType ≠ 0)
    (hlink : (Cond.classLink own x.catchType name).before args s = true) (hcast : (Cond.castable E name).before args s = true) (hcell : H[q]? = some ce) (hv : ce.vm = .none) (hcl : s.vm.findClass E = some ce.cls)
    (kk : W p l e R s m args below meth c H locs cells slots Q (F0 m x.handlerPc ls [.ref q])) : vx_W p l e R s m args below meth c H locs cells slots Q (F0 m pc ls rest) q := by
  intro T hT X
  have hpl : e.platform.magicAccessors = ({} : Platform).magicAccessors := by rw [X.admits.platform]
  obtain ⟨c3, c4, hc3, hc4, hasg⟩ := Cond.castable_spec hcast
  cases Option.some.inj (hc3.symm.trans hcl)
  obtain ⟨c5, hc5, hcl5⟩ := Cond.classLink_spec hown hlink e.platform hpl
  cases Option.some.inj (hc4.symm.trans hc5)
  obtain ⟨vm', X', st⟩ := Stand.thenCaughtThrough X q (g := F0 m pc ls rest) rfl (Steps.refl _) (by rw [hT]; exact hcell) (by rw [hv]; rfl) (by obtain ⟨k9, h9, -⟩ := Vm.findClass_spec hcl; exact ⟨k9, h9⟩) pre x suf hsplit
    (fun z hz => by
      rcases hpass z hz with h | ⟨hz0, nm, hl1, hn1⟩
      · exact Or.inl h
      · obtain ⟨c6, hc6, hcl6⟩ := Cond.classLink_spec hown hl1 e.platform hpl
        obtain ⟨a8, b8, h1, h2, h3⟩ := hn1
        cases Option.some.inj (h1.symm.trans hcl)
        cases Option.some.inj (h2.symm.trans hc6)
        exact Or.inr ⟨hz0, _, hcl6, h3⟩) hx (Or.inr ⟨h0, c4, hcl5, hasg⟩)
  obtain ⟨t, a1, b1⟩ := kk (T.setVm vm') hT X'
  exact ⟨t, st.trans a1, b1⟩
end CatchW
section LCall
variable {p : Program} {l : Launch} {e : Env} {R : Room} {s : State} {m : MethodId} {args : Array Value} {below : List Frame} {meth : Method} {c : Code} {H : Heap} {locs : List Loc} {cells slots : Nat} {Q : State → Prop}
variable {D : va_G} {g : Nat → Nat} {A : Nat → Prop} {cc : ByteArray} {nL k2 i b pc : Nat} {As rest : List Value} {σ τ : PS} {r : Rs} {ls : Array Slot}
theorem rcv_L (hE : EnvT D g s) (hk2 : k2 < 172) (h5 : Pl D g A σ H) (ho : mO k2 ≤ 8) (hb : zK σ b = mO k2 + 1) : ∃ cellB : Cell, H[b]? = some cellB ∧ cellB.vm.isStatics = false ∧ s.vm.findClass (mY k2).cls = some cellB.cls := by
  obtain ⟨hcls, -⟩ := mY_ok k2 hk2
  rw [hcls]
  obtain ⟨Ls, hL, hP, hD⟩ := h5
  obtain ⟨q0, he⟩ := pl_at hL (live_8 ho hb) (cel_obj (g := g) ho hb)
  obtain ⟨c1, -⟩ := cl_ok _ ho
  rw [ownS_8 _ ho]
  exact va_recv hE.1 hP c1 he
theorem Ar_L (hA : ∀ q, s.heap.size ≤ q → A q) (h3 : H.size = zN σ) (h5 : Pl D g A σ H) (h6 : va_S A s.heap H locs) : ∀ q, Ar σ q → A q :=
  Ar_le h5 (fun q hq => hA q (by have := h6.1; omega))
theorem pre_L {C S : Nat} {as : List Value} (hE : EnvT D g s) (hH : EnvH g A s s.heap) (hA : ∀ q, s.heap.size ≤ q → A q) (h3 : H.size = zN σ) (h4 : zN σ ≤ C ∧ zS σ ≤ S) (h5 : Pl D g A σ H) (h6 : va_S A s.heap H locs) (h7 : cOK g σ) :
    ∀ U : State, U.heap = H → s.WarmedH U.vm → va_Pc as (PreK D g C S σ) as.toArray U := by
  intro U hU hW
  refine ⟨rfl, h4, by rw [hU]; exact h3, by rw [hU]; exact h5.self, h7, hE.warm hW, ?_⟩
  rw [hU]
  exact (((hH.moved hW.alike).kept h6.2.1).narrow (Ar_L hA h3 h5 h6))
theorem L_run {C S : Nat} (X : CallFix p m c cc nL s args gW RL) (hE : EnvT D g s) (hH : EnvH g A s s.heap) (hA : ∀ q, s.heap.size ≤ q → A q) (hk : k2 < 172) (hms : mS k2 = false) (hmi : mI k2 = false) (ho : mO k2 ≤ 8) (hb : zK σ b = mO k2 + 1)
    (hlink : Cond.methodLink RL i (mY k2) ∈ gW) (hl : As.length + 1 = mA k2) (hd : decode cc pc = .ok (.invokevirtual i, 3)) (hrest : rest.length ≤ 4) (hrm : mF k2 + 1 ≤ R.frames ∧ 8 + (mL k2 + 11) + mW k2 ≤ R.locals)
    (hroom : cells + (C - zN σ) ≤ R.cells ∧ slots + (S - zS σ) ≤ R.slots) (hC : Ctr l D g C S k2 (.ref b :: As) σ r τ) (h4 : zN σ ≤ C ∧ zS σ ≤ S) (h3 : H.size = zN σ) (h5 : Pl D g A σ H) (h6 : va_S A s.heap H locs) (h7 : cOK g σ) (hls : ls.size = nL) :
    vx_Run p l e R s m args below meth c H locs cells slots (C - zN σ) (S - zS σ) (F0 m pc ls (As.reverse ++ .ref b :: rest)) rest (QcK D g C S σ r τ (Value.ref b :: As).toArray) (XcK D g σ r τ) (Ar σ) := by
  obtain ⟨hcls, hpl, hmh, hpar, hin, hA1, hO17⟩ := mY_ok k2 hk
  have hgn := gn_all k2 hk
  have hini : Cond.initialized (mY k2).cls ∈ gW := by rw [hcls]; exact gi_all _ hO17 (mO_11 k2 hk)
  rw [if_neg (by rw [hms]; decide)] at hgn
  have hsel := hgn.2.resolve_left (by rw [hmi]; decide)
  have hS8 : 2 * (F0 m pc ls (As.reverse ++ .ref b :: rest)).monitorRoom + (rest.map fun v => v.category).sum ≤ 8 := by
    have := len_sum rest
    show 2 * 0 + _ ≤ 8
    omega
  have hts := X.2.2.2.2
  have hM := hC
  unfold Ctr at hM
  refine vx_runV (As := As) (b := b) X hM (cwV (mA k2 - 1) hts (gIn (fun w hw => ?_)) rfl rfl rfl ⟨rfl, hmh.1, hmh.2, by rw [hpar, hms]; rfl⟩ hrm) ⟨fb_K, rcv_L hE hk h5 ho hb, pre_L hE hH hA h3 h4 h5 h6 h7⟩ rfl (by omega) hls rfl hS8 hd hroom
  unfold wsV at hw
  rcases List.mem_append.mp hw with q | q
  · simp only [List.mem_cons, List.not_mem_nil, or_false] at q
    rcases q with rfl | rfl | rfl | rfl
    · exact hlink
    · exact hgn.1
    · exact hsel
    · exact hini
  · exact wsK_in hk w q
/-- a constructor -/
theorem L_runI {C S : Nat} (X : CallFix p m c cc nL s args gW RL) (hE : EnvT D g s) (hH : EnvH g A s s.heap) (hA : ∀ q, s.heap.size ≤ q → A q) (hk : k2 < 172) (hms : mS k2 = false) (hmi : mI k2 = true)
    (hlink : Cond.methodLink RL i (mY k2) ∈ gW) (hl : As.length + 1 = mA k2) (hd : decode cc pc = .ok (.invokespecial i, 3)) (hrest : rest.length ≤ 4) (hrm : mF k2 + 1 ≤ R.frames ∧ 8 + (mL k2 + 11) + mW k2 ≤ R.locals)
    (hroom : cells + (C - zN σ) ≤ R.cells ∧ slots + (S - zS σ) ≤ R.slots) {v : Option Value} (hC : Ctr l D g C S k2 (.ref b :: As) σ (Sum.inl v) τ) (h4 : zN σ ≤ C ∧ zS σ ≤ S) (h3 : H.size = zN σ) (h5 : Pl D g A σ H) (h6 : va_S A s.heap H locs) (h7 : cOK g σ) (hls : ls.size = nL) :
    va_Run p l e R s m args below meth c H locs cells slots (C - zN σ) (S - zS σ) (F0 m pc ls (As.reverse ++ .ref b :: rest)) rest (QcK D g C S σ (Sum.inl v) τ (Value.ref b :: As).toArray) (Ar σ) := by
  obtain ⟨hcls, hpl, hmh, hpar, hin, hA1, hO17⟩ := mY_ok k2 hk
  have hgn := gn_all k2 hk
  have hini : Cond.initialized (mY k2).cls ∈ gW := by rw [hcls]; exact gi_all _ hO17 (mO_11 k2 hk)
  rw [if_neg (by rw [hms]; decide)] at hgn
  have hS8 : 2 * (F0 m pc ls (As.reverse ++ .ref b :: rest)).monitorRoom + (rest.map fun v => v.category).sum ≤ 8 := by
    have := len_sum rest
    show 2 * 0 + _ ≤ 8
    omega
  have hts := X.2.2.2.2
  have hM : Met l (mY k2) (wsK k2) (rmK C S k2 σ) (va_Pc (.ref b :: As) (PreK D g C S σ)) (QcK D g C S σ (Sum.inl v) τ) (C - zN σ) (S - zS σ) (Ar σ) := met_of hC XcK_no
  have hnm : (mY k2).name = "<init>" := by rw [hmi] at hin; exact of_decide_eq_true hin.symm
  have hret : wsK k2 = Cond.code (mY k2) (mB k2) (mL k2) none :: gW := by unfold wsK; rw [mI_none k2 hk hmi]
  exact va_runI (As := As) (b := b) X hM (cwI (mA k2 - 1) hts (gIn (wsK_in hk)) hret rfl rfl (hts _ hini) (hts _ hlink) (hts _ hgn.1) hnm ⟨hmh.1, hmh.2, by rw [hpar, hms]; rfl⟩ hrm) ⟨fb_K, pre_L hE hH hA h3 h4 h5 h6 h7⟩ rfl (by omega) hls rfl hS8 hd hroom
theorem L_go {C S mc ms : Nat} {st0 : List Value} {v : Option Value} {as : Array Value}
    (hr : vx_Run p l e R s m args below meth c H locs cells slots mc ms (F0 m pc ls st0) rest (QcK D g C S σ (Sum.inl v) τ as) (XcK D g σ (Sum.inl v) τ) (Ar σ)) (hS : va_S A s.heap H locs) (hA : ∀ q, Ar σ q → A q)
    (kk : ∀ (H1 : Heap) (locs1 : List Loc), H1.size = zN τ → hsl H1 + zS σ ≤ hsl H + zS τ → Pl D g (Ar σ) τ H1 → cOK g τ → va_S A s.heap H1 locs1 → (∀ q, q < H.size → ¬ Ar σ q → H1[q]? = H[q]?) → W p l e R s m args below meth c H1 locs1 (cells + mc) (slots + ms) Q (F0 m (pc + 3) ls (v.toList ++ rest))) :
    W p l e R s m args below meth c H locs cells slots Q (F0 m pc ls st0) := by
  intro T hT X
  rcases hr T hT X with ⟨v', st₀, t, T', L, h0, X', hL, e1, e2, ⟨⟨v1, r1, r2, z1, z2, z3, z4, z5, z6, z7⟩, hF⟩, st⟩ | ⟨q, st₀, t, T', L, E, ce, h0, X', hL, e1, e2, hx, -⟩
  · cases r1
    cases r2
    obtain ⟨k1, k2, k3⟩ := vx_keep h0 e1 hS (fun q _ h => hA q h) hA hL hF
    rw [h0] at z2
    obtain ⟨t2, a1, b1⟩ := kk T'.heap (locs ++ L) (by rw [e1]; exact z1) (by rw [e1]; exact z2) (by rw [e1]; exact z3) z4 k3 k2 T' rfl X'
    exact ⟨t2, st t2 a1, b1⟩
  · exact absurd hx (XcK_no _ _ _)
theorem L_goT {C S mc ms j : Nat} {st0 : List Value} {as : Array Value}
    (hr : vx_Run p l e R s m args below meth c H locs cells slots mc ms (F0 m pc ls st0) rest (QcK D g C S σ (Sum.inr j) τ as) (XcK D g σ (Sum.inr j) τ) (Ar σ)) (hS : va_S A s.heap H locs) (hA : ∀ q, Ar σ q → A q)
    (kk : ∀ (H1 : Heap) (locs1 : List Loc) (q : Addr) (ce : Cell), zN τ ≤ H1.size → Pl D g (Ar σ) τ H1 → cOK g τ → va_S A s.heap H1 locs1 → (∀ q, q < H.size → ¬ Ar σ q → H1[q]? = H[q]?) → H1[q]? = some ce → ce.vm = .none → s.vm.findClass (exN j) = some ce.cls → vx_W p l e R s m args below meth c H1 locs1 (cells + mc) (slots + ms) Q (F0 m pc ls rest) q) :
    W p l e R s m args below meth c H locs cells slots Q (F0 m pc ls st0) := by
  intro T hT X
  rcases hr T hT X with ⟨v', st₀, t, T', L, h0, X', hL, e1, e2, ⟨⟨v1, r1, -⟩, -⟩, -⟩ | ⟨q, st₀, t, T', L, E, ce, h0, X', hL, e1, e2, ⟨j', r1, rfl, y1, y2, y3, hF⟩, hce, hcv, hcl, st⟩
  · cases r1
  · cases r1
    obtain ⟨k1, k2, k3⟩ := vx_keep h0 e1 hS (fun q _ h => hA q h) hA hL hF
    obtain ⟨t2, a1, b1⟩ := kk T'.heap (locs ++ L) q ce (by rw [e1]; exact y1) (by rw [e1]; exact y2) y3 k3 k2 (by rw [e1]; exact hce) hcv hcl T' rfl X'
    exact ⟨t2, st.trans a1, b1⟩
end LCall
