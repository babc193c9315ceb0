abbrev rtN : List String := ["java/lang/RuntimeException", "java/lang/Exception"]
def dWs : List Cond := dD.map Cond.declares ++ dC.map (fun q => Cond.castable q.1 q.2)
theorem gx_0 : Cond.classLink RX6 199 (exN 0) ∈ gW ∧ Cond.initialized (exN 0) ∈ gW := ⟨gWm (w := Cond.classLink RX6 199 (exN 0)) 841 (by decide +kernel) (by decide +kernel), gWm (w := Cond.initialized (exN 0)) 85 (by decide +kernel) (by decide +kernel)⟩
set_option maxRecDepth 20000 in
theorem gy_0 : ((nsA RX6 203).filter vx_no).all (fun w => vx_ot w && ((decide (w ∈ lw_tbl) && goodWord w) || decide (w ∈ dWs))) = true := by decide +kernel
theorem gz_0 : vx_ot (Cond.classLink RX6 199 (exN 0)) = true ∧ vx_ot (Cond.initialized (exN 0)) = true := by decide +kernel
theorem gx_1 : Cond.classLink RX6 81 (exN 1) ∈ gW ∧ Cond.initialized (exN 1) ∈ gW := ⟨gWm (w := Cond.classLink RX6 81 (exN 1)) 893 (by decide +kernel) (by decide +kernel), gWm (w := Cond.initialized (exN 1)) 89 (by decide +kernel) (by decide +kernel)⟩
set_option maxRecDepth 20000 in
theorem gy_1 : (vx_atS RX6 85 (exN 1) rtN).all (fun w => vx_ot w && ((decide (w ∈ lw_tbl) && goodWord w) || decide (w ∈ dWs))) = true := by decide +kernel
theorem gz_1 : vx_ot (Cond.classLink RX6 81 (exN 1)) = true ∧ vx_ot (Cond.initialized (exN 1)) = true := by decide +kernel
theorem gx_2 : Cond.classLink RX6 100 (exN 2) ∈ gW ∧ Cond.initialized (exN 2) ∈ gW := ⟨gWm (w := Cond.classLink RX6 100 (exN 2)) 866 (by decide +kernel) (by decide +kernel), gWm (w := Cond.initialized (exN 2)) 88 (by decide +kernel) (by decide +kernel)⟩
set_option maxRecDepth 20000 in
theorem gy_2 : (vx_atS RX6 104 (exN 2) rtN).all (fun w => vx_ot w && ((decide (w ∈ lw_tbl) && goodWord w) || decide (w ∈ dWs))) = true := by decide +kernel
theorem gz_2 : vx_ot (Cond.classLink RX6 100 (exN 2)) = true ∧ vx_ot (Cond.initialized (exN 2)) = true := by decide +kernel
theorem gx_3 : Cond.classLink RX6 54 (exN 3) ∈ gW ∧ Cond.initialized (exN 3) ∈ gW := ⟨gWm (w := Cond.classLink RX6 54 (exN 3)) 728 (by decide +kernel) (by decide +kernel), gWm (w := Cond.initialized (exN 3)) 79 (by decide +kernel) (by decide +kernel)⟩
set_option maxRecDepth 20000 in
theorem gy_3 : (vx_atS RX6 58 (exN 3) rtN).all (fun w => vx_ot w && ((decide (w ∈ lw_tbl) && goodWord w) || decide (w ∈ dWs))) = true := by decide +kernel
theorem gz_3 : vx_ot (Cond.classLink RX6 54 (exN 3)) = true ∧ vx_ot (Cond.initialized (exN 3)) = true := by decide +kernel
section Thr
variable {p : Program} {l : Launch} {e : Env} {R : Room} {s : State} {m : MethodId} {args : Array Value} {below : List Frame} {meth : Method} {c : Code} {H : Heap} {locs : List Loc} {cells slots : Nat} {ls : Array Slot} {rest : List Value} {free : Addr → Prop}
variable {Qc : Array Value → State → Outcome → State → Prop} {XC : String → State → State → Prop}
/-- 'throw new NoSuchElementException("text")' -/
theorem ns_throw {cc : ByteArray} {pc : Nat} (hexec : p.tables.exec = Jvm.exec) (hb : c.code = cc) (hl : l.stackTraces = false) {own text : String} {ik is ic mc ms sa : Nat} {A : Nat → Prop}
    (hown : s.vm.findClass own = some m.cls)
    (hk : (Cond.classLink own ik nsX).before args s = true) (hini : (Cond.initialized nsX).before args s = true) (hstr : vk_R own is text sa s) (hat : ∀ w ∈ (nsA own ic).filter vx_no, w.before args s = true)
    (hgood : ∀ w ∈ Cond.classLink own ik nsX :: Cond.initialized nsX :: (nsA own ic).filter vx_no, vx_ot w = true)
    (hU : vx_Zq Bundle.tN "UNASSIGNED_STACK" Bundle.steD A s s.heap) (hN : vx_Zq Bundle.tN "SUPPRESSED_SENTINEL" Bundle.listD A s s.heap) (hS : va_S A s.heap H locs) (hsize : ls.size = c.maxLocals)
    (d0 : decode cc pc = .ok (.new ik, 3)) (d3 : decode cc (pc + 3) = .ok (.dup, 1)) (d4 : decode cc (pc + 4) = .ok (.ldc is, 2)) (d6 : decode cc (pc + 6) = .ok (.invokespecial ic, 3)) (d9 : decode cc (pc + 9) = .ok (.athrow, 1))
    (hout : ∀ x ∈ c.exceptionTable.toList, covers x (pc + 9) = false)
    (hRframes : 5 < R.frames) (hRlocals : (rest.map fun v => v.category).sum + 82 ≤ R.locals) (hRcells : cells + 1 ≤ R.cells) (hRslots : slots + 6 ≤ R.slots) (hlocks : meth.locks = false)
    (hx : ∀ t : State, s.vm.Alike t.vm → H.size ≤ t.heap.size → (∀ q : Nat, q < H.size → t.heap[q]? = H[q]?) → XC nsX s t)
    (hf : ∀ z ∈ locs, free z.base) (hc : cells + 1 ≤ mc) (hs : slots + 6 ≤ ms) :
    W p l e R s m args below meth c H locs cells slots (vx_MQ below Qc XC args s mc ms free) (F0 m pc ls rest) := by
  intro T hT X
  have htr : e.platform.stackTraces = false := (show e.platform.stackTraces = l.stackTraces by rw [X.admits.platform]).trans hl
  have Y := vx_rebase X (R' := { frames := R.frames, locals := R.locals, cells := 1, slots := 6 }) (Nat.le_refl _) (Nat.le_refl _) hRcells hRslots
  obtain ⟨s', hA⟩ : ∃ z, z = (T.setVm s.vm).setFrames (.invoking m args :: below) := ⟨_, rfl⟩
  rw [← hA] at Y
  have hvm : s'.vm = s.vm := by rw [hA]; rfl
  have hhp : s'.heap = H := by rw [hA]; exact hT
  have hW0 : s.WarmedH s'.vm := by rw [hvm]; exact State.WarmedH.refl s
  have hat' : ∀ w ∈ (nsA own ic).filter vx_no, w.before args s' = true := fun w hw => vx_ot_at hW0 hvm.symm (hgood w (List.mem_cons_of_mem _ (List.mem_cons_of_mem _ hw))) (hat w hw)
  have hk' : (Cond.classLink own ik nsX).before args s' = true := vx_ot_at hW0 hvm.symm (hgood _ List.mem_cons_self) hk
  have hini' : (Cond.initialized nsX).before args s' = true := vx_ot_at hW0 hvm.symm (hgood _ (List.mem_cons_of_mem _ List.mem_cons_self)) hini
  have hU' : vx_Zq Bundle.tN "UNASSIGNED_STACK" Bundle.steD A s' s'.heap := by rw [hhp]; exact vx_Zq.moved hW0.alike (hU.kept hS.2.1)
  have hN' : vx_Zq Bundle.tN "SUPPRESSED_SENTINEL" Bundle.listD A s' s'.heap := by rw [hhp]; exact vx_Zq.moved hW0.alike (hN.kept hS.2.1)
  have h : ∀ w ∈ nsA own ic, w.before args s' = true := vx_own hat' (vx_isRefq hU'.1) (vx_isRefq hN'.1) hU'.2.word hN'.2.word
  have hown' : s'.vm.findClass own = some m.cls := by rw [hvm]; exact hown
  have hins : (Cond.instantiable nsX 6).before args s' = true := h _ (List.mem_append_right _ (List.mem_append_right _ (List.mem_append_right _ (by simp [nsL]))))
  obtain ⟨vm₁, cX, kX, hfX, hkX, -, -, X₁, st1⟩ := Y.newCold hexec (own := own) (C := nsX) (index := ik) (n := 6) hown' hk' hins hini'
    (g := F0 m pc ls rest) rfl (by rw [hb]; exact d0) (Nat.le_refl _) (Nat.le_refl _)
  generalize hT1 : (T.setVm vm₁).pushCell { cls := cX, slots := kX.instanceTypes.map defaultValue, vm := .none } = T1 at X₁ st1
  have hcat : (Value.ref T.heap.size).category = 1 := rfl
  have hcellA : T1.heap[T.heap.size]? = some (freshCell cX kX) := by rw [← hT1]; exact State.heap_pushCell_size _ _
  have d3' : decode c.code (pc + 3) = .ok (.dup, 1) := by rw [hb]; exact d3
  have d4' : decode c.code (pc + 4) = .ok (.ldc is, 2) := by rw [hb]; exact d4
  have hstr' : vk_R own is text sa s' := vk_R.warm hW0 hstr
  obtain ⟨U, hsteps, hrun, hend, hW, hsame, ce, hce, hov, hocl⟩ := ns_ctor X₁ hexec htr (own := own) (ic := ic) hown' h (fun x hx => nomatch hx) hfX hkX hcellA (by rw [hhp, hT]; exact Nat.le_refl _) (msg := .ref sa) rfl
    (g := { method := m, pc := pc + 6, locals := ls, stack := .ref sa :: .ref T.heap.size :: .ref T.heap.size :: rest, locked := none }) rfl hsize rfl rfl (rest := rest) rfl
    (by rw [hb]; exact d6) (by rw [hb]; exact d9) hout hRframes (by simp only [List.map_cons, List.sum_cons, hcat]; show 2 * 0 + _ + _ ≤ R.locals; omega) hlocks
  obtain ⟨f1, f2⟩ := vx_frame hsame
  rw [hhp] at f1 f2
  have hWs : s.WarmedH U.vm := State.WarmedH.trans hW0 hW
  have hcl : s.vm.findClass nsX = some ce.cls := by
    rw [hvm] at hocl
    exact hocl
  have hall : s.sameButNew ({ U with vm := s.vm } : State) locs mc ms := by
    subst hA
    obtain ⟨e1, e2⟩ := hsame
    rw [State.setFrames_setFrames] at e1
    have h2 : (T.setVm s.vm).sameButNew ({ U with vm := s.vm } : State) [] (0 + 1) (0 + 6) := ⟨e1, e2⟩
    have h3 := X.same.trans h2
    rw [List.append_nil] at h3
    exact h3.mono hc hs
  refine ⟨U, ?_, .threw T.heap.size, hrun, hend, Or.inr ⟨T.heap.size, rfl, nsX, ce, locs, hx U hWs.alike f1 (fun q hq => f2 q hq (fun z hz => nomatch hz)), hce, hov, hcl, hWs, hall, hf⟩⟩
  refine st1 _ ?_
  show Steps p.tables e below (T1.setTop { method := m, pc := pc + 3, locals := ls, stack := .ref T.heap.size :: rest, locked := none }) _
  jvm_step X₁.here [X₁.here.top, hexec, d3', Value.category]
  exact X₁.ldcString hexec (own := own) (text := text) (index := is) (a := sa) hown' hstr'.1 hstr'.2
    (g := { method := m, pc := pc + 4, locals := ls, stack := .ref T.heap.size :: .ref T.heap.size :: rest, locked := none }) rfl d4' _ hsteps
end Thr
section Thr2
variable {p : Program} {l : Launch} {e : Env} {s : State} {m : MethodId} {args : Array Value} {below : List Frame} {meth : Method} {c : Code}
variable {D : va_G} {g : Nat → Nat} {C S k : Nat} {σ0 : PS}
theorem hat_of (hts : ∀ w ∈ gW, w.before args s = true) (hE : EnvT D g s) {ws : List Cond} (h : ws.all (fun w => vx_ot w && ((decide (w ∈ lw_tbl) && goodWord w) || decide (w ∈ dWs))) = true) : ∀ w ∈ ws, w.before args s = true ∧ vx_ot w = true := by
  intro w hw
  have h1 := List.all_eq_true.mp h w hw
  simp only [Bool.and_eq_true, Bool.or_eq_true, decide_eq_true_eq] at h1
  refine ⟨?_, h1.1⟩
  rcases h1.2 with q | q
  · exact hts w (List.mem_filter.mpr q)
  · unfold dWs at q
    rcases List.mem_append.mp q with q | q
    · obtain ⟨y, hy, rfl⟩ := List.mem_map.mp q
      exact (hE.2.2.2.2.2.2.2.2.2.2.2.1 y hy).use rfl
    · obtain ⟨y, hy, rfl⟩ := List.mem_map.mp q
      exact (hE.2.2.2.2.2.2.2.2.2.2.2.2 y hy).use rfl
theorem Pl.grown {A : Nat → Prop} {σ : PS} {H H1 : Heap} (h : Pl D g A σ H) (o : ∀ q : Nat, q < H.size → H1[q]? = H[q]?) : Pl D g A σ H1 := by
  obtain ⟨Ls, hL, hP, hD⟩ := h
  exact ⟨Ls, hL, hP.kept (fun k x hx => o x.1 ((hP k x hx).lt)), hD⟩
theorem v_thr (X : Cx p l s m args meth c D g C S k σ0) {pc ik is ic j : Nat} {text : String} {lf : LV} {st : List Value} {σ : PS} (hO : mO k = 7) (hid : exN j = exN j) (hft : Bundle.fit (exN j) = true) (hk : Cond.classLink RX6 ik (exN j) ∈ gW) (hini : Cond.initialized (exN j) ∈ gW) (ht : (is, text) ∈ tT)
    (hat : (vx_atS RX6 ic (exN j) rtN).all (fun w => vx_ot w && ((decide (w ∈ lw_tbl) && goodWord w) || decide (w ∈ dWs))) = true) (hz : vx_ot (Cond.classLink RX6 ik (exN j)) = true ∧ vx_ot (Cond.initialized (exN j)) = true)
    (d0 : decode (mB k) pc = .ok (.new ik, 3)) (d3 : decode (mB k) (pc + 3) = .ok (.dup, 1)) (d4 : decode (mB k) (pc + 4) = .ok (.ldc is, 2)) (d6 : decode (mB k) (pc + 6) = .ok (.invokespecial ic, 3)) (d9 : decode (mB k) (pc + 9) = .ok (.athrow, 1))
    (hl : st.length ≤ 4) (hF : 6 ≤ mF k) (hW : 90 ≤ mW k) (hN : zN σ + 1 ≤ C) (hS : zS σ + 6 ≤ S) :
    VV p l e s m args below meth c D g C S k σ0 (vx_MQ below (QcK D g C S σ0 (Sum.inr j) σ) (XcK D g σ0 (Sum.inr j) σ) args s (C - zN σ0) (S - zS σ0) (Ar σ0)) pc lf st σ := by
  obtain ⟨⟨hx, hb, hml, hown, hts⟩, ⟨hlocks, hret, -, hout⟩, ⟨hE, hH, hsz, -⟩, hst, -⟩ := X
  intro H locs ls h1 h2 h3 h4 h5 h6 h7
  have hle := h6.1
  have hs := len_sum st
  rw [hO] at hown
  obtain ⟨sa, hsa⟩ := hE.2.2.2.2.2.2.2.2.2.2.1 (is, text) ht
  have ha := hat_of hts hE hat
  refine vx_throwS (A := Ar σ0) (names := rtN) hx hb hst hown hft (by decide +kernel) (hts _ hk) (hts _ hini) hsa (fun w hw => (ha w hw).1) (fun w hw => ?_) hH.2.2.2.2.2.2.2.1 hH.2.2.2.2.2.2.2.2 h6 (by rw [hml]; exact h1.1.trans h2) d0 d3 d4 d6 d9 (fun x hx => absurd hx (fun q => hout x q)) (by show 2 + 3 < mF k; omega) (by show _ + (13 * 3 + 43) ≤ mW k; omega) (by show _ ≤ C - zN σ0; omega) (by show _ ≤ S - zS σ0; omega) hlocks (fun t _ hts1 ho => ?_) h6.2.2 (by omega) (by omega)
  · rcases List.mem_cons.mp hw with rfl | hw
    · exact hz.1
    · rcases List.mem_cons.mp hw with rfl | hw
      · exact hz.2
      · exact (ha w hw).2
  · refine ⟨j, rfl, rfl, by omega, h5.grown ho, h7, by omega, fun q g1 g2 => ?_⟩
    rw [ho q (by omega)]
    exact h6.2.1 q g1 g2
theorem v_thrN (X : Cx p l s m args meth c D g C S k σ0) {pc ik is ic : Nat} {text : String} {lf : LV} {st : List Value} {σ : PS} (hO : mO k = 7) (hid : exN 0 = exN 0) (hk : Cond.classLink RX6 ik (exN 0) ∈ gW) (hini : Cond.initialized (exN 0) ∈ gW) (ht : (is, text) ∈ tT)
    (hat : ((nsA RX6 ic).filter vx_no).all (fun w => vx_ot w && ((decide (w ∈ lw_tbl) && goodWord w) || decide (w ∈ dWs))) = true) (hz : vx_ot (Cond.classLink RX6 ik (exN 0)) = true ∧ vx_ot (Cond.initialized (exN 0)) = true)
    (d0 : decode (mB k) pc = .ok (.new ik, 3)) (d3 : decode (mB k) (pc + 3) = .ok (.dup, 1)) (d4 : decode (mB k) (pc + 4) = .ok (.ldc is, 2)) (d6 : decode (mB k) (pc + 6) = .ok (.invokespecial ic, 3)) (d9 : decode (mB k) (pc + 9) = .ok (.athrow, 1))
    (hl : st.length ≤ 4) (hF : 6 ≤ mF k) (hW : 90 ≤ mW k) (hN : zN σ + 1 ≤ C) (hS : zS σ + 6 ≤ S) :
    VV p l e s m args below meth c D g C S k σ0 (vx_MQ below (QcK D g C S σ0 (Sum.inr 0) σ) (XcK D g σ0 (Sum.inr 0) σ) args s (C - zN σ0) (S - zS σ0) (Ar σ0)) pc lf st σ := by
  obtain ⟨⟨hx, hb, hml, hown, hts⟩, ⟨hlocks, hret, -, hout⟩, ⟨hE, hH, hsz, -⟩, hst, -⟩ := X
  intro H locs ls h1 h2 h3 h4 h5 h6 h7
  have hle := h6.1
  have hs := len_sum st
  rw [hO] at hown
  obtain ⟨sa, hsa⟩ := hE.2.2.2.2.2.2.2.2.2.2.1 (is, text) ht
  have ha := hat_of hts hE hat
  refine ns_throw (A := Ar σ0) hx hb hst hown (hts _ hk) (hts _ hini) hsa (fun w hw => (ha w hw).1) (fun w hw => ?_) hH.2.2.2.2.2.2.2.1 hH.2.2.2.2.2.2.2.2 h6 (by rw [hml]; exact h1.1.trans h2) d0 d3 d4 d6 d9 (fun x hx => absurd hx (fun q => hout x q)) (by show 5 < mF k; omega) (by show _ + 82 ≤ mW k; omega) (by show _ ≤ C - zN σ0; omega) (by show _ ≤ S - zS σ0; omega) hlocks (fun t _ hts1 ho => ?_) h6.2.2 (by omega) (by omega)
  · rcases List.mem_cons.mp hw with rfl | hw
    · exact hz.1
    · rcases List.mem_cons.mp hw with rfl | hw
      · exact hz.2
      · exact (ha w hw).2
  · refine ⟨0, rfl, rfl, by omega, h5.grown ho, h7, by omega, fun q g1 g2 => ?_⟩
    rw [ho q (by omega)]
    exact h6.2.1 q g1 g2
theorem v_site (X : Cx p l s m args meth c D g C S k σ0) {pc j : Nat} {lf : LV} {st : List Value} {σ : PS} (h : tR k pc = some j) (hl : st.length ≤ 4) (hF : 6 ≤ mF k) (hW : 90 ≤ mW k) (hN : zN σ + 1 ≤ C) (hS : zS σ + 6 ≤ S) :
    VV p l e s m args below meth c D g C S k σ0 (vx_MQ below (QcK D g C S σ0 (Sum.inr j) σ) (XcK D g σ0 (Sum.inr j) σ) args s (C - zN σ0) (S - zS σ0) (Ar σ0)) pc lf st σ := by
  unfold tR at h
  split at h
  · cases h; exact v_thr X (j := 3) (ic := 58) rfl rfl (by decide) gx_3.1 gx_3.2 (show (56, "there are 24 entries") ∈ tT by decide +kernel) gy_3 gz_3 dX6_entry_14 dX6_entry_17 dX6_entry_18 dX6_entry_20 dX6_entry_23 hl hF hW hN hS
  · cases h; exact v_thr X (j := 1) (ic := 85) rfl rfl (by decide) gx_1.1 gx_1.2 (show (83, "there is no such field") ∈ tT by decide +kernel) gy_1 gz_1 dX6_field_17 dX6_field_20 dX6_field_21 dX6_field_23 dX6_field_26 hl hF hW hN hS
  · cases h; exact v_thr X (j := 3) (ic := 58) rfl rfl (by decide) gx_3.1 gx_3.2 (show (90, "there are 60 citations") ∈ tT by decide +kernel) gy_3 gz_3 dX6_cite_18 dX6_cite_21 dX6_cite_22 dX6_cite_24 dX6_cite_27 hl hF hW hN hS
  · cases h; exact v_thr X (j := 2) (ic := 104) rfl rfl (by decide) gx_2.1 gx_2.2 (show (102, "a sort and a label are 0 to 2") ∈ tT by decide +kernel) gy_2 gz_2 dX6_style_18 dX6_style_21 dX6_style_22 dX6_style_24 dX6_style_27 hl hF hW hN hS
  · cases h; exact v_thr X (j := 1) (ic := 85) rfl rfl (by decide) gx_1.1 gx_1.2 (show (162, "there is no such person") ∈ tT by decide +kernel) gy_1 gz_1 dX6_initials_31 dX6_initials_34 dX6_initials_35 dX6_initials_37 dX6_initials_40 hl hF hW hN hS
  · cases h; exact v_thr X (j := 1) (ic := 85) rfl rfl (by decide) gx_1.1 gx_1.2 (show (179, "nothing such is missing") ∈ tT by decide +kernel) gy_1 gz_1 dX6_missing_37 dX6_missing_40 dX6_missing_41 dX6_missing_43 dX6_missing_46 hl hF hW hN hS
  · cases h; exact v_thr X (j := 1) (ic := 85) rfl rfl (by decide) gx_1.1 gx_1.2 (show (197, "there are not so many entries twice") ∈ tT by decide +kernel) gy_1 gz_1 dX6_twice_60 dX6_twice_63 dX6_twice_64 dX6_twice_66 dX6_twice_69 hl hF hW hN hS
  · cases h; exact v_thrN X (ic := 203) rfl rfl gx_0.1 gx_0.2 (show (201, "there is no such entry") ∈ tT by decide +kernel) gy_0 gz_0 dX6_entryNumbered_15 dX6_entryNumbered_18 dX6_entryNumbered_19 dX6_entryNumbered_21 dX6_entryNumbered_24 hl hF hW hN hS
  · cases h; exact v_thr X (j := 1) (ic := 85) rfl rfl (by decide) gx_1.1 gx_1.2 (show (204, "there is no such row") ∈ tT by decide +kernel) gy_1 gz_1 dX6_rowAt_15 dX6_rowAt_18 dX6_rowAt_19 dX6_rowAt_21 dX6_rowAt_24 hl hF hW hN hS
  · cases h; exact v_thr X (j := 1) (ic := 85) rfl rfl (by decide) gx_1.1 gx_1.2 (show (218, "no run was") ∈ tT by decide +kernel) gy_1 gz_1 dX6_printHead_10 dX6_printHead_13 dX6_printHead_14 dX6_printHead_16 dX6_printHead_19 hl hF hW hN hS
  · cases h; exact v_thr X (j := 1) (ic := 85) rfl rfl (by decide) gx_1.1 gx_1.2 (show (231, "there is no such character") ∈ tT by decide +kernel) gy_1 gz_1 dX6_signOf_12 dX6_signOf_15 dX6_signOf_16 dX6_signOf_18 dX6_signOf_21 hl hF hW hN hS
  · cases h; exact v_thr X (j := 2) (ic := 104) rfl rfl (by decide) gx_2.1 gx_2.2 (show (245, "a byte is no character") ∈ tT by decide +kernel) gy_2 gz_2 dX6_addBytes_32 dX6_addBytes_35 dX6_addBytes_36 dX6_addBytes_38 dX6_addBytes_41 hl hF hW hN hS
  · cases h; exact v_thr X (j := 3) (ic := 58) rfl rfl (by decide) gx_3.1 gx_3.2 (show (247, "there is no place for so many characters") ∈ tT by decide +kernel) gy_3 gz_3 dX6_addBytes_61 dX6_addBytes_64 dX6_addBytes_65 dX6_addBytes_67 dX6_addBytes_70 hl hF hW hN hS
  · cases h
end Thr2
