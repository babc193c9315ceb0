/-! THE CLAIM OUT OF ONE WALK OF THE LAW'S BODY. Your part is whole_start (and what it stands on); all else here is the same for every law, but numbers. -/
def R_law : String := "CiteListsLaw"
def lw_P (b : Addr) (xs : List Int32) (args : Array Value) (s : State) : Prop := args = #[.ref b] ∧ s.IntsAt b xs ∧ xs.length ≤ 192 ∧ (Jvm.Cond.and given_1 narrow_1).before args s = true
def lw_Q (_ : Array Value) (s : State) (o : Outcome) (t : State) : Prop := o = .returned (some (.int 1)) ∧ Framed s o t [] 600096 7301385
def lw_Z (below : List Frame) (a : Array Value) (s : State) : State → Prop := fun t => ∃ o, t.status = .running ∧ Ended t below o ∧ lw_Q a s o t
/-- the law's own end, with 1 on the stack, nothing written that was there before, its room as the claim has it -/
theorem lw_ret {p : Program} {l : Launch} {e : Env} {s : State} {m : MethodId} {below : List Frame} {meth : Method} {c : Code} {b : Nat} (hx : p.tables.exec = Jvm.exec) (hb : c.code = code) (hr : meth.sig.returnType = ret) (hlocks : meth.locks = false) {pc : Nat} {H : Heap} {ls : Array Slot} (hdg : decode code pc = .ok (.ireturn, 1)) : W p l e room_1 s m #[Value.ref b] below meth c H [] 600096 7301385 (lw_Z below #[Value.ref b] s) (F0 m pc ls [.int 1]) := by
  intro T hT X
  obtain ⟨fs, hret, hrun, hended, hW, hframe⟩ := X.leave (v := some (.int 1)) (hlocks := hlocks) (fun h => by rw [hr] at h; cases h)
  have hmeth' : T.vm.method? m = some meth := X.method'
  refine ⟨T.setFrames fs, ?_, .returned (some (.int 1)), hrun, hended, rfl, ⟨_, rfl⟩, hW, hframe⟩
  jvm_step X.here [X.here.top, hx, hb, hdg, hmeth', hr, ret, narrow_b1]
  (try refine ⟨rfl, ?_⟩); (try refine ⟨rfl, ?_⟩)
  first | (intro acts; rw [hret _ acts rfl rfl rfl]) | rw [hret _ _ rfl rfl rfl]
  exact Steps.refl _
/-- what holds at the law's entry: the machine, the code, the tables' words (any of lw_tbl by 'hts w (by decide +kernel)'), the script of L ints xs at the cell b, what the Statement gives of the start (any of its parts by flat_of_before) -/
def lw_At (p : Program) (s : State) (m : MethodId) (meth : Method) (c : Code) (b L : Nat) (xs : Nat → Int32) : Prop :=
  p.tables.exec = Jvm.exec ∧ c.code = code ∧ meth.sig.returnType = ret ∧ c.maxLocals = 7 ∧ s.vm.findClass R_law = some m.cls ∧ (∀ w ∈ lw_tbl, w.before #[Value.ref b] s = true) ∧ va_X b L xs s s.heap ∧ b < s.heap.size ∧ meth.locks = false ∧ (Jvm.Cond.and given_1 narrow_1).before #[Value.ref b] s = true
/-! the law's steps -/
def A0 (s : State) : Nat → Prop := fun q => s.heap.size ≤ q
def LwC (D : va_G) (g : Nat → Nat) (gL : Nat) (s : State) : Prop := EnvT D g s ∧ EnvH g (A0 s) s s.heap ∧ va_K D vwCl [(gL, .long)] s ∧ ∀ i j, i < 4 → j < 4 → ¬ i = j → va_Nc (exN i) (exN j) s
/-- the heap holds the pure state and the long array -/
def LH (D : va_G) (g : Nat → Nat) (gL : Nat) (s : State) (σ : PS) (o : Nat) (ov : Int64) (H : Heap) (locs : List Loc) : Prop := H.size = zN σ ∧ Pl D g (A0 s) σ H ∧ va_S (A0 s) s.heap H locs ∧ cOK g σ ∧ oW D gL o ov H
theorem fb_H {D : va_G} {g : Nat → Nat} {σ : PS} {gL o : Nat} {ov : Int64} {as : List Value} : FrameBlind (va_Pc as (HP D g σ gL o ov)) := by
  intro a U gg mk h
  obtain ⟨h1, h2, h3, h4, h5, h6, h7, h8, h9, h10⟩ := h
  exact ⟨h1, h2, h3, h4, EnvT.warm (s := U) (State.WarmedH.refl U) h5, EnvH.moved (s := U) (Vm.Alike.refl U.vm) h6, h7, va_K.moved (u := U) (Vm.Alike.refl U.vm) h8, fun i j hi hj hn => va_Nc.moved (u := U) (Vm.Alike.refl U.vm) (h9 i j hi hj hn), h10⟩
section Law
variable {p : Program} {l : Launch} {e : Env} {s : State} {m : MethodId} {args : Array Value} {below : List Frame} {meth : Method} {c : Code} {H : Heap} {locs : List Loc} {Q : State → Prop}
variable {D : va_G} {g : Nat → Nat} {gL o pc i nL : Nat} {ov ov2 : Int64} {As rest : List Value} {σ τ : PS} {ls : Array Slot} {cc : ByteArray}
theorem L_help {y : MethodName} {bytes : ByteArray} {mxl kc S0 : Nat} {hh : List (Nat × Nat × Nat × Nat)} {k : Int32} (X : CallFix p m c cc nL s args gW RL) (hC : LwC D g gL s) (hL : LH D g gL s σ o ov H locs) (ho : o < zN σ ∧ ¬ Ar σ o ∧ s.heap.size ≤ o) (hS0 : S0 ≤ zS σ) (hm : zN σ ≤ zN τ ∧ zS σ ≤ zS τ) (hN : zN τ + 1 ≤ s.heap.size + 600096) (hS : zS τ + 6 ≤ S0 + 7301385)
    (hM : Met l y (Cond.codeWith y bytes mxl (some .int) hh :: gW) (rmH kc σ τ) (va_Pc As (HP D g σ gL o ov)) (HQ D g σ τ gL o ov2 k) (zN τ + 1 - zN σ) (zS τ + 6 - zS σ) (Ao σ o))
    (hw : Cond.codeWith y bytes mxl (some .int) hh ∈ gW) (hlink : Cond.methodLink RL i y ∈ gW) (hst : Cond.static y ∈ gW) (hyc : y.cls = RL) (hpar : (parseMethodDescriptor y.desc).map (fun d => d.parameters.length) = some As.length) (hrm : mF kc + 1 + 1 ≤ 15 ∧ 8 + (mxl + 11) + (8 + (mL kc + 11) + mW kc) ≤ 578)
    (hls : ls.size = nL) (hrest : rest.length ≤ 4) (hd : decode cc pc = .ok (.invokestatic i, 3))
    (kk : ∀ (N2 : Nat) (H1 : Heap) (locs1 : List Loc), zN τ ≤ N2 → N2 ≤ zN τ + 1 → LH D g gL s (N2, zS τ + 6, τ.2.2) o ov2 H1 locs1 → W p l e room_1 s m args below meth c H1 locs1 (zN ((N2, zS τ + 6, τ.2.2) : PS) - s.heap.size) (zS ((N2, zS τ + 6, τ.2.2) : PS) - S0) Q (F0 m (pc + 3) ls (.int k :: rest))) :
    W p l e room_1 s m args below meth c H locs (zN σ - s.heap.size) (zS σ - S0) Q (F0 m pc ls (As.reverse ++ rest)) := by
  obtain ⟨hE, hH, hK, hNc⟩ := hC
  obtain ⟨h3, h5, h6, h7, h8⟩ := hL
  obtain ⟨ho1, ho2, ho3⟩ := ho
  have hle := h6.1
  have hA : ∀ q, s.heap.size ≤ q → A0 s q := fun _ h => h
  have hAr := Ar_L hA h3 h5 h6
  have hAo : ∀ q, Ao σ o q → A0 s q := fun q h => h.elim (hAr q) (fun e => by rw [e]; exact ho3)
  have hts := X.2.2.2.2
  have hS8 : 2 * (F0 m pc ls (As.reverse ++ rest)).monitorRoom + (rest.map fun v => v.category).sum ≤ 8 := by
    have := len_sum rest
    show 2 * 0 + _ ≤ 8
    omega
  have hcw : vx_CSW room_1 s args RL i y bytes mxl (some .int) hh (Cond.codeWith y bytes mxl (some .int) hh :: gW) (rmH kc σ τ) (zN τ + 1 - zN σ) (zS τ + 6 - zS σ) As.length := vx_cwSW As.length hts (gIn (fun w hw2 => by
      unfold va_wsS at hw2
      rcases List.mem_append.mp hw2 with q | q
      · simp only [List.mem_cons, List.not_mem_nil, or_false] at q
        rcases q with rfl | rfl | rfl
        · exact hlink
        · exact hst
        · rw [hyc]; exact gI_L
      · rcases List.mem_cons.mp q with rfl | q
        · exact hw
        · exact q)) rfl rfl rfl ⟨by rw [hyc]; decide, by rw [hyc]; decide, hpar⟩ hrm
  refine W_look fun z1 z2 => ?_
  intro T hT X0
  have hpre : ∀ U : State, U.heap = H → s.WarmedH U.vm → va_Pc As (HP D g σ gL o ov) As.toArray U := fun U hU hW => ⟨rfl, by rw [hU]; exact h3, by rw [hU]; exact h5.self, h7, hE.warm hW, by rw [hU]; exact ((hH.moved hW.alike).kept h6.2.1).narrow hAo, by rw [hU]; exact h8, va_K.moved hW.alike hK, fun i j hi hj hn => va_Nc.moved hW.alike (hNc i j hi hj hn), ho1, ho2⟩
  obtain ⟨v, st₀, t, T', L, h0, X', hL, e1, e2, ⟨⟨r1, y1, y2, y3, y4, y5, y6⟩, hF⟩, st⟩ := vx_runSW (locs := locs) (As := As) (rest := rest) (g := F0 m pc ls (As.reverse ++ rest)) (cells := zN σ - s.heap.size) (slots := zS σ - S0) (below := below) (meth := meth) (e := e) X hM hcw ⟨fb_H, hpre⟩ rfl rfl hls rfl hS8 hd ⟨by show _ ≤ 600096; omega, by show _ ≤ 7301385; omega⟩ T hT X0
  cases r1
  obtain ⟨k1, k2, k3⟩ := vx_keep h0 e1 h6 (fun q _ h => hAo q h) hAo hL hF
  rw [h0] at y3
  rw [← e1] at y1 y2 y3 y4 y6
  have kk1 := kk T'.heap.size T'.heap (locs ++ L) y1 y2 ⟨rfl, y4.weak hAo, k3, y5, y6⟩
  obtain ⟨t2, a1, b1⟩ := W_tight (cells := zN σ - s.heap.size + (zN τ + 1 - zN σ)) (slots := zS σ - S0 + (zS τ + 6 - zS σ)) (by show hsl T'.heap ≤ hsl s.heap + (zS τ + 6 - S0); omega) (by show T'.heap.size ≤ s.heap.size + (T'.heap.size - s.heap.size); omega) kk1 T' rfl X'
  exact ⟨t2, st t2 a1, b1⟩
/-- a call of the reference, or of run -/
theorem L_ref {kr b S0 N : Nat} {v : Value} (hl : l.stackTraces = false) (X : CallFix p m c cc nL s args gW RL) (hC : LwC D g gL s) (hL : LH D g gL s σ o ov H locs) (ho : o < zN σ ∧ ¬ Ar σ o) (hS0 : S0 ≤ zS σ) (hm : zN σ ≤ zN τ ∧ zS σ ≤ zS τ) (hN : zN τ + 1 ≤ s.heap.size + 600096) (hS : zS τ + 6 ≤ S0 + 7301385)
    (hrun : run g (zN τ + 1) (zS τ + 6) N kr 0 (entL (.ref b :: As) (mL kr)) [] σ = some (Sum.inl (some v), τ)) (hent : (ent (.ref b :: As)).length ≤ mL kr) (hk : kr < 172) (hms : mS kr = false) (hmi : mI kr = false) (hO : mO kr ≤ 8) (hb : zK σ b = mO kr + 1) (hlink : Cond.methodLink RL i (mY kr) ∈ gW) (hla : As.length + 1 = mA kr) (hrm : mF kr + 1 ≤ 15 ∧ 8 + (mL kr + 11) + mW kr ≤ 578)
    (hls : ls.size = nL) (hrest : rest.length ≤ 4) (hd : decode cc pc = .ok (.invokevirtual i, 3))
    (kk : ∀ (H1 : Heap) (locs1 : List Loc), LH D g gL s τ o ov H1 locs1 → W p l e room_1 s m args below meth c H1 locs1 (zN τ - s.heap.size) (zS τ - S0) Q (F0 m (pc + 3) ls (v :: rest))) :
    W p l e room_1 s m args below meth c H locs (zN σ - s.heap.size) (zS σ - S0) Q (F0 m pc ls (As.reverse ++ .ref b :: rest)) := by
  obtain ⟨hE, hH, hK, hNc⟩ := hC
  obtain ⟨h3, h5, h6, h7, h8⟩ := hL
  have hle := h6.1
  have hA : ∀ q, s.heap.size ≤ q → A0 s q := fun _ h => h
  have hAr := Ar_L hA h3 h5 h6
  refine W_look fun z1 z2 => ?_
  refine L_go (L_run X hE hH hA hk hms hmi hO hb hlink hla hd hrest hrm ⟨by show _ ≤ 600096; omega, by show _ ≤ 7301385; omega⟩ (sound hl D g _ _ N kr _ σ _ τ hk hent hrun) ⟨by omega, by omega⟩ h3 h5 h6 h7 hls) h6 hAr (fun H1 locs1 y1 y2 y3 y4 y5 y6 => ?_)
  exact W_tight (by omega) (by omega) (kk H1 locs1 ⟨y1, y3.weak hAr, y5, y4, oW_kept h8 (y6 o (by omega) ho.2)⟩)
theorem L_refv {kr b S0 N : Nat} (hl : l.stackTraces = false) (X : CallFix p m c cc nL s args gW RL) (hC : LwC D g gL s) (hL : LH D g gL s σ o ov H locs) (ho : o < zN σ ∧ ¬ Ar σ o) (hS0 : S0 ≤ zS σ) (hm : zN σ ≤ zN τ ∧ zS σ ≤ zS τ) (hN : zN τ + 1 ≤ s.heap.size + 600096) (hS : zS τ + 6 ≤ S0 + 7301385)
    (hrun : run g (zN τ + 1) (zS τ + 6) N kr 0 (entL (.ref b :: As) (mL kr)) [] σ = some (Sum.inl none, τ)) (hent : (ent (.ref b :: As)).length ≤ mL kr) (hk : kr < 172) (hms : mS kr = false) (hmi : mI kr = false) (hO : mO kr ≤ 8) (hb : zK σ b = mO kr + 1) (hlink : Cond.methodLink RL i (mY kr) ∈ gW) (hla : As.length + 1 = mA kr) (hrm : mF kr + 1 ≤ 15 ∧ 8 + (mL kr + 11) + mW kr ≤ 578)
    (hls : ls.size = nL) (hrest : rest.length ≤ 4) (hd : decode cc pc = .ok (.invokevirtual i, 3))
    (kk : ∀ (H1 : Heap) (locs1 : List Loc), LH D g gL s τ o ov H1 locs1 → W p l e room_1 s m args below meth c H1 locs1 (zN τ - s.heap.size) (zS τ - S0) Q (F0 m (pc + 3) ls rest)) :
    W p l e room_1 s m args below meth c H locs (zN σ - s.heap.size) (zS σ - S0) Q (F0 m pc ls (As.reverse ++ .ref b :: rest)) := by
  obtain ⟨hE, hH, hK, hNc⟩ := hC
  obtain ⟨h3, h5, h6, h7, h8⟩ := hL
  have hle := h6.1
  have hA : ∀ q, s.heap.size ≤ q → A0 s q := fun _ h => h
  have hAr := Ar_L hA h3 h5 h6
  refine W_look fun z1 z2 => ?_
  refine L_go (L_run X hE hH hA hk hms hmi hO hb hlink hla hd hrest hrm ⟨by show _ ≤ 600096; omega, by show _ ≤ 7301385; omega⟩ (sound hl D g _ _ N kr _ σ _ τ hk hent hrun) ⟨by omega, by omega⟩ h3 h5 h6 h7 hls) h6 hAr (fun H1 locs1 y1 y2 y3 y4 y5 y6 => ?_)
  exact W_tight (by omega) (by omega) (kk H1 locs1 ⟨y1, y3.weak hAr, y5, y4, oW_kept h8 (y6 o (by omega) ho.2)⟩)
end Law
