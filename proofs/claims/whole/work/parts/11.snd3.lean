/-! calls -/
def wsK (k : Nat) : List Cond := Cond.code (mY k) (mB k) (mL k) (mR k) :: gW
def PreK (D : va_G) (g : Nat → Nat) (C S : Nat) (σ : PS) (U : State) : Prop := (zN σ ≤ C ∧ zS σ ≤ S) ∧ U.heap.size = zN σ ∧ Pl D g (Ar σ) σ U.heap ∧ cOK g σ ∧ EnvT D g U ∧ EnvH g (Ar σ) U U.heap
def QcK (D : va_G) (g : Nat → Nat) (C S : Nat) (σ : PS) (r : Rs) (τ : PS) : Array Value → State → Outcome → State → Prop := fun _ st o t =>
  (∃ v, r = Sum.inl v ∧ o = .returned v ∧ t.heap.size = zN τ ∧ hsl t.heap + zS σ ≤ hsl st.heap + zS τ ∧ Pl D g (Ar σ) τ t.heap ∧ cOK g τ ∧ zS σ ≤ zS τ ∧ zN τ ≤ C ∧ zS τ ≤ S) ∧ va_F (Ar σ) st t
def XcK (D : va_G) (g : Nat → Nat) (σ : PS) (r : Rs) (τ : PS) : String → State → State → Prop := fun E st t => ∃ j, r = Sum.inr j ∧ E = exN j ∧ zN τ ≤ t.heap.size ∧ Pl D g (Ar σ) τ t.heap ∧ cOK g τ ∧ va_F (Ar σ) st t
/-- method k, with these arguments, from σ: it comes to r and τ -/
def Ctr (l : Launch) (D : va_G) (g : Nat → Nat) (C S k : Nat) (as : List Value) (σ : PS) (r : Rs) (τ : PS) : Prop :=
  vx_Met l (mY k) (wsK k) (rmK C S k σ) (va_Pc as (PreK D g C S σ)) (QcK D g C S σ r τ) (XcK D g σ r τ) (C - zN σ) (S - zS σ) (Ar σ)
theorem met_of {l : Launch} {y : MethodName} {ws : List Cond} {rm : Room} {Pc : Array Value → State → Prop} {Qc : Array Value → State → Outcome → State → Prop} {XC : String → State → State → Prop} {mc ms : Nat} {free : Addr → Prop} (h : vx_Met l y ws rm Pc Qc XC mc ms free) (hx : ∀ E st t, ¬ XC E st t) : Met l y ws rm Pc Qc mc ms free := by
  intro p e ha hc hk s m args below hf happ hP hK
  obtain ⟨n, o, h1, h2, h3, hq⟩ := h p e ha hc hk s m args below hf happ hP hK
  refine ⟨n, o, h1, h2, h3, ?_⟩
  rcases hq with hq | ⟨q, -, E, ce, L, hX, -⟩
  · exact hq
  · exact absurd hX (hx _ _ _)
theorem gIn {ws : List Cond} (h : ∀ w ∈ ws, w ∈ gW) : GoodIn gW ws := fun w hw => ⟨h w hw, good_of_word (gW_good w (h w hw))⟩
theorem wsK_in {k : Nat} (hk : k < 172) : ∀ w ∈ wsK k, w ∈ gW := fun w hw => (List.mem_cons.mp hw).elim (fun e => by rw [e]; exact mC_ok k hk) id
section Cal
variable {p : Program} {l : Launch} {e : Env} {s : State} {m : MethodId} {args : Array Value} {below : List Frame} {meth : Method} {c : Code} {Q : State → Prop}
variable {D : va_G} {g : Nat → Nat} {C S k : Nat} {σ0 : PS}
theorem fb_K {as : List Value} {σ : PS} : FrameBlind (va_Pc as (PreK D g C S σ)) := by
  intro a U gg mk h
  obtain ⟨h1, h0, h2, h3, h4, h5, h6⟩ := h
  exact ⟨h1, h0, h2, h3, h4, EnvT.warm (s := U) (State.WarmedH.refl U) h5, EnvH.moved (s := U) (Vm.Alike.refl U.vm) h6⟩
theorem Ar_le {σ : PS} {A : Nat → Prop} {H : Heap} (h5 : Pl D g A σ H) (hn : ∀ q, zN σ ≤ q → A q) : ∀ q, Ar σ q → A q := by
  obtain ⟨Ls, hL, hP, hD⟩ := h5
  intro q hq
  rcases hq with hq | hq
  · obtain ⟨q0, h⟩ := pl_at (g := g) hL hq rfl
    exact hD.2 q0 _ h
  · exact hn q hq
theorem Pl.self {σ : PS} {A : Nat → Prop} {H : Heap} (h5 : Pl D g A σ H) : Pl D g (Ar σ) σ H := by
  obtain ⟨Ls, hL, hP, hD⟩ := h5
  refine ⟨Ls, hL, hP, hD.1, fun k q hq => Or.inl ?_⟩
  have hm := List.mem_of_getElem? hq
  unfold va_pl at hm
  obtain ⟨a, ha, rfl⟩ := List.mem_map.mp hm
  exact (hL a).mp ha
theorem Pl.weak {τ : PS} {A B : Nat → Prop} {H : Heap} (h5 : Pl D g A τ H) (hAB : ∀ q, A q → B q) : Pl D g B τ H := by
  obtain ⟨Ls, hL, hP, hD⟩ := h5
  exact ⟨Ls, hL, hP, hD.1, fun k q hq => hAB _ (hD.2 k q hq)⟩
/-- a callee's start -/
theorem pre_K (X : Cx p l s m args meth c D g C S k σ0) {as : List Value} {σ : PS} {H : Heap} {locs : List Loc} (h3 : H.size = zN σ) (h4 : zS σ0 ≤ zS σ ∧ zN σ ≤ C ∧ zS σ ≤ S) (h5 : Pl D g (Ar σ0) σ H) (h6 : va_S (Ar σ0) s.heap H locs) (h7 : cOK g σ) : ∀ U : State, U.heap = H → s.WarmedH U.vm → va_Pc as (PreK D g C S σ) as.toArray U := by
  obtain ⟨-, -, ⟨hE, hH, hsz, -⟩, -⟩ := X
  intro U hU hW
  have hle := h6.1
  refine ⟨rfl, h4.2, by rw [hU]; exact h3, by rw [hU]; exact h5.self, h7, hE.warm hW, ?_⟩
  rw [hU]
  exact (((hH.moved hW.alike).kept h6.2.1).narrow (Ar_le h5 (fun q hq => Or.inr (by omega))))
theorem call_go {R : Room} {H : Heap} {locs : List Loc} {cells slots mc ms pc : Nat} {ls : Array Slot} {st0 rest : List Value} {free : Addr → Prop} {σ τ : PS} {v : Option Value} {as : Array Value}
    (hr : va_Run p l e R s m args below meth c H locs cells slots mc ms (F0 m pc ls st0) rest (QcK D g C S σ (Sum.inl v) τ as) free) (hS : va_S (Ar σ0) s.heap H locs) (hA : ∀ q, Ar σ q → Ar σ0 q) (hf : ∀ q, free q → Ar σ0 q)
    (kk : ∀ (H1 : Heap) (locs1 : List Loc), H1.size = zN τ → hsl H1 + zS σ ≤ hsl H + zS τ → zS σ ≤ zS τ → zN τ ≤ C → zS τ ≤ S → Pl D g (Ar σ) τ H1 → cOK g τ → va_S (Ar σ0) s.heap H1 locs1 → W p l e R s m args below meth c H1 locs1 (cells + mc) (slots + ms) Q (F0 m (pc + 3) ls (v.toList ++ rest))) :
    W p l e R s m args below meth c H locs cells slots Q (F0 m pc ls st0) := by
  intro T hT X
  obtain ⟨v', st₀, t, T', L, h0, X', hL, e1, e2, ⟨⟨v1, r1, r2, z1, z2, z3, z4, z5, z6, z7⟩, hz, hk⟩, st⟩ := hr T hT X
  cases r1
  cases r2
  rw [h0] at hz hk z2
  obtain ⟨t2, a1, b1⟩ := kk T'.heap (locs ++ L) (by rw [e1]; exact z1) (by rw [e1]; exact z2) z5 z6 z7 (by rw [e1]; exact z3) z4
    ⟨Nat.le_trans hS.1 (by rw [e1]; exact hz), fun q g1 g2 => by rw [e1, hk q (Nat.lt_of_lt_of_le g1 hS.1) (fun z => g2 (hA q z))]; exact hS.2.1 q g1 g2, fun q hq => by
      rcases List.mem_append.mp hq with h | h
      · exact hS.2.2 q h
      · exact hf _ (hL q h)⟩ T' rfl X'
  exact ⟨t2, st t2 a1, b1⟩
/-- how a call goes on in the caller -/
theorem call_on (X : Cx p l s m args meth c D g C S k σ0) {pc : Nat} {lf : LV} {rest : List Value} {v : Option Value} {σ τ : PS} {H : Heap} {locs : List Loc} {ls : Array Slot} (h : VV p l e s m args below meth c D g C S k σ0 Q (pc + 3) lf (v.toList ++ rest) τ)
    (h1 : lsR ls lf) (h2 : lf.length = mL k) (h3 : H.size = zN σ) (h4 : zS σ0 ≤ zS σ ∧ zN σ ≤ C ∧ zS σ ≤ S) (h5 : Pl D g (Ar σ0) σ H) (h6 : va_S (Ar σ0) s.heap H locs) {st0 : List Value} {as : Array Value}
    (hr : va_Run p l e (rmK C S k σ0) s m args below meth c H locs (zN σ - zN σ0) (zS σ - zS σ0) (C - zN σ) (S - zS σ) (F0 m pc ls st0) rest (QcK D g C S σ (Sum.inl v) τ as) (Ar σ)) :
    W p l e (rmK C S k σ0) s m args below meth c H locs (zN σ - zN σ0) (zS σ - zS σ0) Q (F0 m pc ls st0) := by
  have hsz := X.2.2.1.2.2.1
  have hle := h6.1
  have hA := Ar_le h5 (fun q hq => Or.inr (by omega) : ∀ q, zN σ ≤ q → Ar σ0 q)
  refine W_look fun z1 z2 => ?_
  refine call_go hr h6 hA hA fun H1 locs1 y1 y2 y3 y4 y5 y6 y7 y8 => ?_
  have hle1 := y8.1
  refine W_tight (cells' := zN τ - zN σ0) (slots' := zS τ - zS σ0) (by omega) (by omega) ?_
  exact h H1 locs1 ls h1 h2 y1 ⟨by omega, y4, y5⟩ (y6.weak hA) y8 y7
theorem gn_all : ∀ k, k < 172 → (if mS k = true then Cond.static (mY k) ∈ gW else Cond.instanceMethod (mY k) ∈ gW ∧ (mI k = true ∨ Cond.selects (mY k).cls (mY k) (mY k) ∈ gW)) := by
  intro k hk
  have h : (if mS k = true then decide (lw_tbl[mIx.getD k 0]? = some (Cond.static (mY k))) && goodWord (Cond.static (mY k)) else decide (lw_tbl[mIx.getD k 0]? = some (Cond.instanceMethod (mY k))) && goodWord (Cond.instanceMethod (mY k)) && (mI k || (decide (lw_tbl[mJx.getD k 0]? = some (Cond.selects (mY k).cls (mY k) (mY k))) && goodWord (Cond.selects (mY k).cls (mY k) (mY k))))) = true := by
    rcases (show k < 24 ∨ (24 ≤ k ∧ k < 48) ∨ (48 ≤ k ∧ k < 72) ∨ (72 ≤ k ∧ k < 96) ∨ (96 ≤ k ∧ k < 120) ∨ (120 ≤ k ∧ k < 144) ∨ (144 ≤ k ∧ k < 168) ∨ (168 ≤ k ∧ k < 172) by omega) with q | q | q | q | q | q | q | q
    · exact gn_0 k q (by omega)
    · exact gn_24 k q.2 q.1
    · exact gn_48 k q.2 q.1
    · exact gn_72 k q.2 q.1
    · exact gn_96 k q.2 q.1
    · exact gn_120 k q.2 q.1
    · exact gn_144 k q.2 q.1
    · exact gn_168 k q.2 q.1
  by_cases hs : mS k = true
  · rw [if_pos hs] at h ⊢
    simp only [Bool.and_eq_true, decide_eq_true_eq] at h
    exact gWm _ h.1 h.2
  · rw [if_neg hs] at h ⊢
    simp only [Bool.and_eq_true, Bool.or_eq_true, decide_eq_true_eq] at h
    exact ⟨gWm _ h.1.1 h.1.2, h.2.elim Or.inl (fun q => Or.inr (gWm _ q.1 q.2))⟩
theorem gi_all : ∀ o, o ≤ 17 → o ≠ 11 → Cond.initialized (ownS o) ∈ gW := by
  intro o h1 h2
  match o, h1, h2 with
  | 0, _, _ => exact gi_0
  | 1, _, _ => exact gi_1
  | 2, _, _ => exact gi_2
  | 3, _, _ => exact gi_3
  | 4, _, _ => exact gi_4
  | 5, _, _ => exact gi_5
  | 6, _, _ => exact gi_6
  | 7, _, _ => exact gi_7
  | 8, _, _ => exact gi_8
  | 9, _, _ => exact gi_9
  | 10, _, _ => exact gi_10
  | 12, _, _ => exact gi_12
  | 13, _, _ => exact gi_13
  | 14, _, _ => exact gi_14
  | 15, _, _ => exact gi_15
  | 16, _, _ => exact gi_16
  | 17, _, _ => exact gi_17
  | 11, _, h => exact absurd rfl h
  | n + 18, h, _ => exact absurd h (by omega)
theorem mO_11 : ∀ k, k < 172 → mO k ≠ 11 := by decide +kernel
theorem len_sum (r : List Value) : (r.map fun v => v.category).sum ≤ 2 * r.length := by
  induction r with
  | nil => simp
  | cons v r ih =>
    simp only [List.map_cons, List.sum_cons, List.length_cons]
    rcases lv_cat v with h | h <;> omega
end Cal
