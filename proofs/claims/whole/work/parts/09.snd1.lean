/-! SOUNDNESS: a run of the pure machine is a run of the machine -/
abbrev rmK (C S k : Nat) (σ0 : PS) : Room := { frames := mF k, cells := C - zN σ0, slots := S - zS σ0, locals := mW k }
/-- what holds in a body of method k that began at σ0 -/
def Cx (p : Program) (l : Launch) (s : State) (m : MethodId) (args : Array Value) (meth : Method) (c : Code) (D : va_G) (g : Nat → Nat) (C S k : Nat) (σ0 : PS) : Prop :=
  CallFix p m c (mB k) (mL k) s args gW (ownS (mO k)) ∧ (meth.locks = false ∧ meth.sig.returnType = mR k ∧ (mI k = true → meth.name = "<init>") ∧ (∀ x ∈ c.exceptionTable.toList, False)) ∧
  (EnvT D g s ∧ EnvH g (Ar σ0) s s.heap ∧ s.heap.size = zN σ0 ∧ True) ∧ l.stackTraces = false ∧ k < 172 ∧ zN σ0 ≤ C ∧ zS σ0 ≤ S
def VV (p : Program) (l : Launch) (e : Env) (s : State) (m : MethodId) (args : Array Value) (below : List Frame) (meth : Method) (c : Code) (D : va_G) (g : Nat → Nat) (C S k : Nat) (σ0 : PS) (Q : State → Prop) (pc : Nat) (lf : LV) (st : List Value) (σ : PS) : Prop :=
  ∀ (H : Heap) (locs : List Loc) (ls : Array Slot), lsR ls lf → lf.length = mL k → H.size = zN σ → (zS σ0 ≤ zS σ ∧ zN σ ≤ C ∧ zS σ ≤ S) → Pl D g (Ar σ0) σ H → va_S (Ar σ0) s.heap H locs → cOK g σ →
    W p l e (rmK C S k σ0) s m args below meth c H locs (zN σ - zN σ0) (zS σ - zS σ0) Q (F0 m pc ls st)
section Snd
variable {p : Program} {l : Launch} {e : Env} {s : State} {m : MethodId} {args : Array Value} {below : List Frame} {meth : Method} {c : Code} {Q : State → Prop}
variable {D : va_G} {g : Nat → Nat} {C S k : Nat} {σ0 : PS}
theorem VV.stp {pc pc' : Nat} {lf : LV} {st st' : List Value} {σ : PS} (h : VV p l e s m args below meth c D g C S k σ0 Q pc' lf st' σ)
    (r : ∀ (H : Heap) (locs : List Loc) (ls : Array Slot) (cells slots : Nat), lsR ls lf → W p l e (rmK C S k σ0) s m args below meth c H locs cells slots Q (F0 m pc' ls st') → W p l e (rmK C S k σ0) s m args below meth c H locs cells slots Q (F0 m pc ls st)) :
    VV p l e s m args below meth c D g C S k σ0 Q pc lf st σ := fun H locs ls h1 h2 h3 h4 h5 h6 h7 => r H locs ls _ _ h1 (h H locs ls h1 h2 h3 h4 h5 h6 h7)
theorem VV.stl {pc pc' i : Nat} {lf : LV} {v : Value} {st st' : List Value} {σ : PS} (hi : i < lf.length) (h : VV p l e s m args below meth c D g C S k σ0 Q pc' (stl lf i v) st' σ)
    (r : ∀ (H : Heap) (locs : List Loc) (ls : Array Slot) (cells slots : Nat), lv_has ls lf.length (pr lf) → (∀ ls' : Array Slot, lv_has ls' lf.length ((i, v) :: (pr lf).filter (fun q => !(q.1 == i) && !(q.1 + 1 == i && q.2.category == 2))) → W p l e (rmK C S k σ0) s m args below meth c H locs cells slots Q (F0 m pc' ls' st')) → W p l e (rmK C S k σ0) s m args below meth c H locs cells slots Q (F0 m pc ls st)) :
    VV p l e s m args below meth c D g C S k σ0 Q pc lf st σ := fun H locs ls h1 h2 h3 h4 h5 h6 h7 => r H locs ls _ _ h1.has (fun ls' h' => h H locs ls' (lsR_stl (ls := ls) hi h') (by rw [stl_length]; exact h2) h3 h4 h5 h6 h7)
theorem VV.stl2 {pc pc' i : Nat} {lf : LV} {v : Value} {st st' : List Value} {σ : PS} (hi : i + 1 < lf.length) (h : VV p l e s m args below meth c D g C S k σ0 Q pc' (stl2 lf i v) st' σ)
    (r : ∀ (H : Heap) (locs : List Loc) (ls : Array Slot) (cells slots : Nat), lv_has ls lf.length (pr lf) → (∀ ls' : Array Slot, lv_has ls' lf.length ((i, v) :: (pr lf).filter (fun q => !(q.1 == i) && (!(q.1 == i + 1) && !(q.1 + 1 == i && q.2.category == 2)))) → W p l e (rmK C S k σ0) s m args below meth c H locs cells slots Q (F0 m pc' ls' st')) → W p l e (rmK C S k σ0) s m args below meth c H locs cells slots Q (F0 m pc ls st)) :
    VV p l e s m args below meth c D g C S k σ0 Q pc lf st σ := fun H locs ls h1 h2 h3 h4 h5 h6 h7 => r H locs ls _ _ h1.has (fun ls' h' => h H locs ls' (lsR_stl2 (ls := ls) hi h') (by rw [stl2_length]; exact h2) h3 h4 h5 h6 h7)
theorem jmp_eq {pc t : Nat} {off : Int} (h : jmp pc off = some t) : (pc : Int) + off = (t : Int) := by
  unfold jmp at h
  split at h
  · cases h
    omega
  · cases h
theorem rOf_eq {v : Value} {r : Option Nat} (h : rOf v = some r) : v = va_rf r := by
  cases v <;> simp [rOf] at h <;> subst h <;> rfl
theorem w_aload_n {cc : ByteArray} {R : Room} {H : Heap} {locs : List Loc} {cells slots pc : Nat} {ls : Array Slot} {rest : List Value} (hexec : p.tables.exec = Jvm.exec) (hb : c.code = cc) {n : Fin 4} {r : Option Nat} (hdg : decode cc pc = .ok (.aload_n n, 1)) (hl : ls[(n : Nat)]? = some (.val (va_rf r))) (kk : W p l e R s m args below meth c H locs cells slots Q (F0 m (pc + 1) ls (va_rf r :: rest))) : W p l e R s m args below meth c H locs cells slots Q (F0 m pc ls rest) := by
  cases r with
  | none => exact lv_aload_nN hexec hb hdg rfl hl kk
  | some x => exact lv_aload_n hexec hb hdg rfl hl kk
theorem w_aload {cc : ByteArray} {R : Room} {H : Heap} {locs : List Loc} {cells slots pc i : Nat} {ls : Array Slot} {rest : List Value} (hexec : p.tables.exec = Jvm.exec) (hb : c.code = cc) {r : Option Nat} (hdg : decode cc pc = .ok (.aload i, 2)) (hl : ls[i]? = some (.val (va_rf r))) (kk : W p l e R s m args below meth c H locs cells slots Q (F0 m (pc + 2) ls (va_rf r :: rest))) : W p l e R s m args below meth c H locs cells slots Q (F0 m pc ls rest) := by
  cases r with
  | none => exact lv_aloadN hexec hb hdg hl kk
  | some x => exact lv_aload hexec hb hdg hl kk
theorem w_astore_n {cc : ByteArray} {R : Room} {H : Heap} {locs : List Loc} {cells slots pc nL : Nat} {ls : Array Slot} {rest : List Value} {lv : List (Nat × Value)} (hexec : p.tables.exec = Jvm.exec) (hb : c.code = cc) {n : Fin 4} {r : Option Nat} (hdg : decode cc pc = .ok (.astore_n n, 1)) (h : lv_has ls nL lv) (hn : (n : Nat) < nL)
    (kk : ∀ ls' : Array Slot, lv_has ls' nL (((n : Nat), va_rf r) :: lv.filter (fun q => !(q.1 == (n : Nat)) && !(q.1 + 1 == (n : Nat) && q.2.category == 2))) → W p l e R s m args below meth c H locs cells slots Q (F0 m (pc + 1) ls' rest)) : W p l e R s m args below meth c H locs cells slots Q (F0 m pc ls (va_rf r :: rest)) := by
  cases r with
  | none => exact lv_astore_nN hexec hb hdg rfl h hn rfl kk
  | some x => exact lv_astore_n hexec hb hdg rfl h hn rfl kk
theorem w_astore {cc : ByteArray} {R : Room} {H : Heap} {locs : List Loc} {cells slots pc nL n : Nat} {ls : Array Slot} {rest : List Value} {lv : List (Nat × Value)} (hexec : p.tables.exec = Jvm.exec) (hb : c.code = cc) {r : Option Nat} (hdg : decode cc pc = .ok (.astore n, 2)) (h : lv_has ls nL lv) (hn : n < nL)
    (kk : ∀ ls' : Array Slot, lv_has ls' nL ((n, va_rf r) :: lv.filter (fun q => !(q.1 == n) && !(q.1 + 1 == n && q.2.category == 2))) → W p l e R s m args below meth c H locs cells slots Q (F0 m (pc + 2) ls' rest)) : W p l e R s m args below meth c H locs cells slots Q (F0 m pc ls (va_rf r :: rest)) := by
  cases r with
  | none => exact lv_astoreN hexec hb hdg h hn rfl kk
  | some x => exact lv_astore hexec hb hdg h hn rfl kk
theorem w_if {cc : ByteArray} {R : Room} {H : Heap} {locs : List Loc} {cells slots pc tgt : Nat} {ls : Array Slot} {rest : List Value} {x : Int32} {off : Int} (cd : Jvm.ClassFile.Cond) (hexec : p.tables.exec = Jvm.exec) (hb : c.code = cc) (hdg : decode cc pc = .ok (.ifCond cd off, 3)) (ht : (pc : Int) + off = (tgt : Int))
    (kt : cnd cd x 0 = true → W p l e R s m args below meth c H locs cells slots Q (F0 m tgt ls rest)) (kf : ¬ cnd cd x 0 = true → W p l e R s m args below meth c H locs cells slots Q (F0 m (pc + 3) ls rest)) : W p l e R s m args below meth c H locs cells slots Q (F0 m pc ls (.int x :: rest)) := by
  cases cd with
  | eq => exact lv_if_eq hexec hb hdg ht (fun h => kt (decide_eq_true h)) (fun h => kf (fun q => h (of_decide_eq_true q)))
  | ne => exact lv_if_ne hexec hb hdg ht (fun h => kt (decide_eq_true h)) (fun h => kf (fun q => of_decide_eq_true q h))
  | lt => exact lv_if_lt hexec hb hdg ht (fun h => kt (decide_eq_true h)) (fun h => kf (fun q => h (of_decide_eq_true q)))
  | ge => exact lv_if_ge hexec hb hdg ht (fun h => kt (decide_eq_true h)) (fun h => kf (fun q => h (of_decide_eq_true q)))
  | gt => exact lv_if_gt hexec hb hdg ht (fun h => kt (decide_eq_true h)) (fun h => kf (fun q => h (of_decide_eq_true q)))
  | le => exact lv_if_le hexec hb hdg ht (fun h => kt (decide_eq_true h)) (fun h => kf (fun q => h (of_decide_eq_true q)))
theorem w_icmp {cc : ByteArray} {R : Room} {H : Heap} {locs : List Loc} {cells slots pc tgt : Nat} {ls : Array Slot} {rest : List Value} {x y : Int32} {off : Int} (cd : Jvm.ClassFile.Cond) (hexec : p.tables.exec = Jvm.exec) (hb : c.code = cc) (hdg : decode cc pc = .ok (.if_icmp cd off, 3)) (ht : (pc : Int) + off = (tgt : Int))
    (kt : cnd cd x y = true → W p l e R s m args below meth c H locs cells slots Q (F0 m tgt ls rest)) (kf : ¬ cnd cd x y = true → W p l e R s m args below meth c H locs cells slots Q (F0 m (pc + 3) ls rest)) : W p l e R s m args below meth c H locs cells slots Q (F0 m pc ls (.int y :: .int x :: rest)) := by
  cases cd with
  | eq => exact lv_icmp_eq hexec hb hdg ht (fun h => kt (decide_eq_true h)) (fun h => kf (fun q => h (of_decide_eq_true q)))
  | ne => exact lv_icmp_ne hexec hb hdg ht (fun h => kt (decide_eq_true h)) (fun h => kf (fun q => of_decide_eq_true q h))
  | lt => exact lv_icmp_lt hexec hb hdg ht (fun h => kt (decide_eq_true h)) (fun h => kf (fun q => h (of_decide_eq_true q)))
  | ge => exact lv_icmp_ge hexec hb hdg ht (fun h => kt (decide_eq_true h)) (fun h => kf (fun q => h (of_decide_eq_true q)))
  | gt => exact lv_icmp_gt hexec hb hdg ht (fun h => kt (decide_eq_true h)) (fun h => kf (fun q => h (of_decide_eq_true q)))
  | le => exact lv_icmp_le hexec hb hdg ht (fun h => kt (decide_eq_true h)) (fun h => kf (fun q => h (of_decide_eq_true q)))
/-! fields -/
theorem same_mod {args : Array Value} (h : (Cond.sameField "java/util/ArrayList" "java/util/AbstractList" "modCount" "I").before args s = true) (x : ClassId × Class × Nat × Field) (hx : s.fieldFound? "java/util/AbstractList" "modCount" "I" = some x) : s.fieldFound? "java/util/ArrayList" "modCount" "I" = some x := by
  cases hy : s.fieldFound? "java/util/ArrayList" "modCount" "I" with
  | none => simp [Cond.before, Cond.holds, Cond.value, hy] at h
  | some y =>
    obtain ⟨a1, a2, a3, a4⟩ := y
    have h1 := Cond.sameField_spec hy h
    rw [hx] at h1
    exact h1.symm
theorem ref_same (hts : ∀ w ∈ gW, w.before args s = true) {cI j : Nat} {ref : String} (hr : ref = (clT cI j).1 ∨ (cI = 0 ∧ j = 0 ∧ ref = RJx4a65c)) : ∀ x, s.fieldFound? (clT cI j).1 (clT cI j).2.1 (clT cI j).2.2.1 = some x → s.fieldFound? ref (clT cI j).2.1 (clT cI j).2.2.1 = some x := by
  rcases hr with rfl | ⟨rfl, rfl, rfl⟩
  · exact fun x h => h
  · exact same_mod (hts _ gs_sf)
theorem fldV_eq {σ : PS} {a cI j : Nat} (hc : cI ≤ 8) : fldV σ a cI j = if fB cI j = true then va_rf (zP σ a j) else .int (zI σ a j) := by
  unfold fldV
  by_cases h : fB cI j = true
  · rw [if_pos (Or.inl h), if_pos h]
  · rw [if_neg (by intro q; rcases q with q | q; exact h q; omega), if_neg h]
theorem kOK_8 {cI κ : Nat} (hc : cI ≤ 8) (h : kOK cI κ = true) : κ = cI + 1 := by
  unfold kOK at h
  simp only [Bool.or_eq_true, Bool.and_eq_true, decide_eq_true_eq, beq_iff_eq] at h
  omega
theorem kOK_9 {cI κ : Nat} (hc : ¬ cI ≤ 8) (h : kOK cI κ = true) : cI = 9 ∧ κ = 1000 := by
  unfold kOK at h
  simp only [Bool.or_eq_true, Bool.and_eq_true, decide_eq_true_eq, beq_iff_eq] at h
  omega
theorem live_8 {cI κ : Nat} (hc : cI ≤ 8) (h : κ = cI + 1) : live κ := Or.inl ⟨by omega, by omega⟩
theorem pl_at {σ : PS} {a : Nat} {Ls : List Nat} {x : va_E} (hL : ∀ a, a ∈ Ls ↔ live (zK σ a)) (hl : live (zK σ a)) (hx : cel g σ a = x) : ∃ q0 : Nat, (va_pl Ls (cel g σ))[q0]? = some (a, x) := by
  obtain ⟨q0, h⟩ := va_pl_get (X := []) (f := cel g σ) ((hL a).mpr hl)
  exact ⟨q0, by rw [← hx]; exact h⟩
theorem fR_9 : ∀ o i j, fR o i = some (9, j) → (o = 9 ∧ i = 9 ∧ j = 0) ∨ (o = 9 ∧ i = 15 ∧ j = 1) := by
  intro o i j h
  unfold fR at h
  split at h <;> first | (cases h; simp; done) | (simp at h; done)
theorem v_get (X : Cx p l s m args meth c D g C S k σ0) {pc i cI j a : Nat} {lf : LV} {r : List Value} {σ : PS} (hd : decode (mB k) pc = .ok (.getfield i, 3)) (hf : fR (mO k) i = some (cI, j)) (hK : kOK cI (zK σ a) = true)
    (h : VV p l e s m args below meth c D g C S k σ0 Q (pc + 3) lf (fldV σ a cI j :: r) σ) : VV p l e s m args below meth c D g C S k σ0 Q pc lf (.ref a :: r) σ := by
  obtain ⟨⟨hx, hb, hml, hown, hts⟩, -, ⟨hE, hH, hsz, -⟩, -⟩ := X
  intro H locs ls h1 h2 h3 h4 h5 h6 h7
  have kk := h H locs ls h1 h2 h3 h4 h5 h6 h7
  by_cases hc : cI ≤ 8
  · obtain ⟨Ls, hL, hP, hD⟩ := h5
    have hk := kOK_8 hc hK
    obtain ⟨q0, he⟩ := pl_at hL (live_8 hc hk) (cel_obj (g := g) hc hk)
    obtain ⟨hj, ref, hr, hl⟩ := fR_ok _ _ _ _ hf hc
    obtain ⟨c1, c2, -⟩ := cl_ok cI hc
    rw [fldV_eq hc] at kk
    rcases hl with hl | hl
    · exact va_get (D := D) (ci := cI) hx hb hts c2 hown hE.1 hP q0 he c1 j hj (hts _ hl) (ref_same hts hr) (flds_get _ _ hj) hd kk
    · exact va_getN (D := D) (ci := cI) hx hb hts c2 hown hE.1 hP q0 he c1 j hj ((hE.2.1 _ hl).use rfl) (ref_same hts hr) (flds_get _ _ hj) hd kk
  · obtain ⟨rfl, hk⟩ := kOK_9 hc hK
    rcases h7 a (by omega) with ⟨-, n, hn, rfl, e1, e2⟩ | ⟨q, -⟩ | ⟨q, -⟩ | ⟨q, -⟩
    · have hv := (hH.2.2.2.2.2.2.1).1 n hn
      rcases fR_9 _ _ _ hf with ⟨eo, rfl, rfl⟩ | ⟨eo, rfl, rfl⟩
      · rw [eo] at hown
        have e3 : fldV σ (g (100 + n)) 9 0 = .ref (g (200 + n)) := by unfold fldV; rw [if_pos (Or.inr ⟨rfl, rfl⟩), e1]; rfl
        rw [e3] at kk
        exact vk_getf hx hb hv.2.2.1 h6 hown (hts _ gs_sv) (fun _ h9 => h9) hd kk
      · rw [eo] at hown
        have e3 : fldV σ (g (100 + n)) 9 1 = .int 0 := by unfold fldV; rw [if_neg (by decide), e2]
        rw [e3] at kk
        exact vk_getf hx hb hv.2.1 h6 hown (hts _ gs_sc) (fun _ h9 => h9) hd kk
    · omega
    · omega
    · omega
/-- behind a store: the same kinds, the same sizes -/
theorem VV.put (X : Cx p l s m args meth c D g C S k σ0) {pc' a q0 : Nat} {lf : LV} {st : List Value} {σ τ : PS} {H H1 : Heap} {locs1 : List Loc} {locs : List Loc} {ls : Array Slot} {Ls : List Nat} {x : va_E} (h : VV p l e s m args below meth c D g C S k σ0 Q pc' lf st τ)
    (h1 : lsR ls lf) (h2 : lf.length = mL k) (h3 : H.size = zN σ) (h4 : zS σ0 ≤ zS σ ∧ zN σ ≤ C ∧ zS σ ≤ S) (h6 : va_S (Ar σ0) s.heap H locs) (h7 : cOK g τ) (hL : ∀ a, a ∈ Ls ↔ live (zK σ a)) (hD : va_D (Ar σ0) (va_pl Ls (cel g σ))) (ha : live (zK σ a)) (hq : (va_pl Ls (cel g σ))[q0]? = some (a, cel g σ a))
    (e0 : zK τ = zK σ) (e1 : zN τ = zN σ) (e2 : zS τ = zS σ) (hx : ∀ b, va_up (cel g σ) a x b = cel g τ b)
    (hP1 : va_P D vwCl ((va_pl Ls (cel g σ)).set q0 (a, x)) H1) (hD1 : va_D (Ar σ0) ((va_pl Ls (cel g σ)).set q0 (a, x))) (hS1 : va_S (Ar σ0) H H1 locs1) :
    W p l e (rmK C S k σ0) s m args below meth c H1 locs1 (zN σ - zN σ0) (zS σ - zS σ0) Q (F0 m pc' ls st) := by
  have hset : (va_pl Ls (cel g σ)).set q0 (a, x) = va_pl Ls (cel g τ) := (va_pl_set (X := []) hD ((hL a).mpr ha) hq).trans (va_pl_congr hx)
  rw [hset] at hP1 hD1
  refine W_look fun z1 z2 => ?_
  have hs := X.2.2.1.2.2.1
  have hle := h6.1
  have hS : va_S (Ar σ0) s.heap H1 locs1 := ⟨Nat.le_trans h6.1 hS1.1, fun q g1 g2 => (hS1.2.1 q (Nat.lt_of_lt_of_le g1 h6.1) g2).trans (h6.2.1 q g1 g2), hS1.2.2⟩
  have hz : H1.size = zN τ := by
    have h9 := hS1.1
    rw [e1]
    omega
  have kk := h H1 locs1 ls h1 h2 hz (by rw [e1, e2]; exact h4) ⟨Ls, fun b => by rw [e0]; exact hL b, hP1, hD1⟩ hS h7
  rw [e1, e2] at kk
  exact kk
theorem S_self {H : Heap} {locs : List Loc} (h6 : va_S (Ar σ0) s.heap H locs) : va_S (Ar σ0) H H locs := ⟨Nat.le_refl _, fun _ _ _ => rfl, h6.2.2⟩
theorem ownS_8 : ∀ cI, cI ≤ 8 → ownS cI = clN cI := by decide +kernel
theorem nF_own : ∀ q ∈ nF, q.1 ≠ q.2.2.1 := by decide +kernel
theorem v_put (X : Cx p l s m args meth c D g C S k σ0) {pc i cI j a : Nat} {v : Value} {lf : LV} {r : List Value} {σ τ : PS} (hd : decode (mB k) pc = .ok (.putfield i, 3)) (hf : fR (mO k) i = some (cI, j)) (hc : cI ≤ 8) (hk : zK σ a = cI + 1) (hF : fF cI j = false ∨ (mI k = true ∧ mO k = cI))
    (hn : narrow (clY cI j) v = v) (hfit : fits (clY cI j) v = true) (e0 : zK τ = zK σ) (e1 : zN τ = zN σ) (e2 : zS τ = zS σ) (hx : ∀ b, va_up (cel g σ) a (.inr (cI, (flds cI (zI σ a) (zP σ a)).set j v)) b = cel g τ b) (h7' : cOK g σ → cOK g τ)
    (h : VV p l e s m args below meth c D g C S k σ0 Q (pc + 3) lf r τ) : VV p l e s m args below meth c D g C S k σ0 Q pc lf (v :: .ref a :: r) σ := by
  have X0 := X
  obtain ⟨⟨hx0, hb, hml, hown, hts⟩, ⟨-, -, hin, -⟩, ⟨hE, hH, hsz, -⟩, -⟩ := X
  intro H locs ls h1 h2 h3 h4 h5 h6 h7
  obtain ⟨Ls, hL, hP, hD⟩ := h5
  have hlv : live (zK σ a) := live_8 hc hk
  obtain ⟨q0, hq⟩ := pl_at (g := g) hL hlv rfl
  have he : (va_pl Ls (cel g σ))[q0]? = some (a, .inr (cI, flds cI (zI σ a) (zP σ a))) := by rw [hq, cel_obj hc hk]
  obtain ⟨hj, ref, hr, hl⟩ := fR_ok _ _ _ _ hf hc
  obtain ⟨c1, c2, -, -, c5, c6, c7, c8⟩ := cl_ok cI hc
  have hlen : j < (flds cI (zI σ a) (zP σ a)).length := by rw [flds_len]; exact hj
  by_cases hff : fF cI j = false
  · rcases hl with hl | hl
    · exact va_put (D := D) (ci := cI) hx0 hb hts c2 (clY cI) c5 c6 hown hE.1 hP hD (S_self h6) q0 he c1 j hj (hts _ hl) (ref_same hts hr) ((c7 j hj).2.trans hff) (c5 j hj) hn hfit hlen hd (fun H1 locs1 hP1 hD1 hS1 => VV.put X0 h h1 h2 h3 h4 h6 (h7' h7) hL hD hlv hq e0 e1 e2 hx hP1 hD1 hS1)
    · exact va_putN (D := D) (ci := cI) hx0 hb hts c2 (clY cI) c5 c6 hown hE.1 hP hD (S_self h6) q0 he c1 j hj ((hE.2.1 _ hl).use rfl) (ref_same hts hr) ((c7 j hj).2.trans hff) (c5 j hj) hn hfit hlen hd (fun H1 locs1 hP1 hD1 hS1 => VV.put X0 h h1 h2 h3 h4 h6 (h7' h7) hL hD hlv hq e0 e1 e2 hx hP1 hD1 hS1)
  · have hft : fF cI j = true := by cases hz : fF cI j <;> simp_all
    obtain ⟨hi, ho⟩ := hF.resolve_left hff
    have hcl := c8 j hj hft
    have hdecl : (clT cI j).1 = ownS (mO k) := by rw [hcl, ho, ownS_8 _ hc]
    rcases hl with hl | hl
    · exact va_putF (D := D) (ci := cI) hx0 hb hts c2 (clY cI) c5 c6 hown hE.1 hP hD (S_self h6) q0 he c1 j hj (hts _ hl) (ref_same hts hr) ((c7 j hj).2.trans hft) (hin hi) hdecl (c5 j hj) hn hfit hlen hd (fun H1 locs1 hP1 hD1 hS1 => VV.put X0 h h1 h2 h3 h4 h6 (h7' h7) hL hD hlv hq e0 e1 e2 hx hP1 hD1 hS1)
    · rcases hr with rfl | ⟨rfl, rfl, -⟩
      · exact absurd hdecl.symm (nF_own _ hl)
      · exact absurd hft (by decide)
end Snd
