/-! the law's helpers: a call of the class, its exceptions caught -/
def Ao (σ : PS) (o : Nat) : Nat → Prop := fun q => Ar σ q ∨ q = o
def oW (D : va_G) (gL o : Nat) (ov : Int64) (H : Heap) : Prop := ∃ f : Nat → Int64, f 0 = ov ∧ va_P D vwCl [(o, .inl (gL, 1, .inr (.inl f)))] H
def HP (D : va_G) (g : Nat → Nat) (σ : PS) (gL o : Nat) (ov : Int64) (U : State) : Prop := U.heap.size = zN σ ∧ Pl D g (Ar σ) σ U.heap ∧ cOK g σ ∧ EnvT D g U ∧ EnvH g (Ao σ o) U U.heap ∧ oW D gL o ov U.heap ∧ va_K D vwCl [(gL, .long)] U ∧ (∀ i j, i < 4 → j < 4 → ¬ i = j → va_Nc (exN i) (exN j) U) ∧ o < zN σ ∧ ¬ Ar σ o
def HQ (D : va_G) (g : Nat → Nat) (σ τ : PS) (gL o : Nat) (ov : Int64) (k : Int32) : Array Value → State → Outcome → State → Prop := fun _ st oc t =>
  (oc = .returned (some (.int k)) ∧ zN τ ≤ t.heap.size ∧ t.heap.size ≤ zN τ + 1 ∧ hsl t.heap + zS σ ≤ hsl st.heap + zS τ + 6 ∧ Pl D g (Ao σ o) τ t.heap ∧ cOK g τ ∧ oW D gL o ov t.heap) ∧ va_F (Ao σ o) st t
abbrev rmH (k : Nat) (σ τ : PS) : Room := { frames := mF k + 1, cells := zN τ + 1 - zN σ, slots := zS τ + 6 - zS σ, locals := 8 + (mL k + 11) + mW k }
theorem oW_kept {D : va_G} {gL o : Nat} {ov : Int64} {H H1 : Heap} (h : oW D gL o ov H) (e : H1[o]? = H[o]?) : oW D gL o ov H1 := by
  obtain ⟨f, h0, h⟩ := h
  refine ⟨f, h0, h.kept (fun k q hk => ?_)⟩
  match k, hk with
  | 0, hk => cases hk; exact e
  | k + 1, hk => simp at hk
theorem Pl.in {D : va_G} {g : Nat → Nat} {A : Nat → Prop} {τ : PS} {H : Heap} (h : Pl D g A τ H) {a : Nat} (ha : live (zK τ a)) : A a := by
  obtain ⟨Ls, hL, hP, hD⟩ := h
  obtain ⟨q0, h⟩ := pl_at (g := g) hL ha rfl
  exact hD.2 q0 _ h
theorem Pl.kept {D : va_G} {g : Nat → Nat} {A : Nat → Prop} {τ : PS} {H H1 : Heap} (h : Pl D g A τ H) (hk : ∀ a, live (zK τ a) → H1[a]? = H[a]?) : Pl D g A τ H1 := by
  obtain ⟨Ls, hL, hP, hD⟩ := h
  refine ⟨Ls, hL, hP.kept (fun k q hq => ?_), hD⟩
  have hm := List.mem_of_getElem? hq
  unfold va_pl at hm
  obtain ⟨a, ha, rfl⟩ := List.mem_map.mp hm
  exact hk a ((hL a).mp ha)
section Hlp
variable {p : Program} {l : Launch} {e : Env} {R : Room} {s : State} {m : MethodId} {args : Array Value} {below : List Frame} {meth : Method} {c : Code} {H : Heap} {locs : List Loc} {cells slots : Nat} {Q : State → Prop}
variable {D : va_G} {g : Nat → Nat} {cc : ByteArray} {pc gL o : Nat} {rest : List Value} {σ τ : PS} {ls : Array Slot} {ov : Int64}
theorem H_end {k : Int32} (hx : p.tables.exec = Jvm.exec) (hb : c.code = cc) (hret : meth.sig.returnType = some .int) (hlocks : meth.locks = false) (h3 : s.heap.size = zN σ) (hm : zN σ ≤ zN τ ∧ zS σ ≤ zS τ) (hc : cells ≤ zN τ + 1 - zN σ) (hs : slots ≤ zS τ + 6 - zS σ) (hz : zN τ ≤ H.size) (h5 : Pl D g (Ao σ o) τ H) (h7 : cOK g τ) (hPo : oW D gL o ov H) (hS : va_S (Ao σ o) s.heap H locs)
    (hd : decode cc pc = .ok (.ireturn, 1)) : W p l e R s m args below meth c H locs cells slots (vx_MQ below (HQ D g σ τ gL o ov k) (fun _ _ _ => False) args s (zN τ + 1 - zN σ) (zS τ + 6 - zS σ) (Ao σ o)) (F0 m pc ls [.int k]) := by
  refine W_look fun z1 z2 => ?_
  refine vx_ret ?_
  refine W.widen (k := zN τ + 1 - zN σ) (n := zS τ + 6 - zS σ) hc hs ?_
  exact W.zret hx hb hret rfl (fun t ht hW => ⟨⟨rfl, by rw [ht]; exact hz, by rw [ht]; omega, by rw [ht]; omega, by rw [ht]; exact h5, h7, by rw [ht]; exact hPo⟩, hS.F ht⟩) hS.2.2 hd
theorem H_out {v : Int32} {pE : Nat} {off : Int} (hx : p.tables.exec = Jvm.exec) (hb : c.code = cc) (hret : meth.sig.returnType = some .int) (hlocks : meth.locks = false) (h3 : s.heap.size = zN σ) (hm : zN σ ≤ zN τ ∧ zS σ ≤ zS τ) (hc : cells ≤ zN τ + 1 - zN σ) (hs : slots ≤ zS τ + 6 - zS σ) (hz : zN τ ≤ H.size) (h5 : Pl D g (Ar σ) τ H) (h7 : cOK g τ) (hK : va_K D vwCl [(gL, .long)] s) (hPo : oW D gL o ov H) (hoA : ¬ Ar σ o) (hS : va_S (Ao σ o) s.heap H locs)
    (d1 : decode cc pc = .ok (.i2l, 1)) (d2 : decode cc (pc + 1) = .ok (.lastore, 1)) (d3 : decode cc (pc + 1 + 1) = .ok (.goto off, 3)) (hoff : ((pc + 1 + 1 : Nat) : Int) + off = (pE : Int)) (d4 : decode cc pE = .ok (.iconst 0, 1)) (d5 : decode cc (pE + 1) = .ok (.ireturn, 1)) :
    W p l e R s m args below meth c H locs cells slots (vx_MQ below (HQ D g σ τ gL o v.toInt64 0) (fun _ _ _ => False) args s (zN τ + 1 - zN σ) (zS τ + 6 - zS σ) (Ao σ o)) (F0 m pc ls [.int v, .int 0, .ref o]) := by
  refine lv_i2l hx hb d1 rfl ?_
  have hin : vp_in (0 : Int32) 1 := fun q => q.elim (by decide) (by decide)
  obtain ⟨f, hf, hP⟩ := hPo
  refine W.last hx hb (hP 0 _ rfl) ((hK.2 0 _ rfl).1 1 (fun j => .long (f j))) (fun q => by cases q) (by show ¬ ((0 : Int32) < 0 ∨ (arrV _ _ _).slots.size ≤ _); rw [arrV_size]; exact hin) rfl rfl d2 fun H1 e1 z1 oq => ?_
  refine lv_goto hx hb d3 hoff ?_
  refine lv_iconst (v := 0) hx hb d4 (by decide) ?_
  have hP1 : oW D gL o v.toInt64 H1 := by
    refine ⟨vp_updL f (0 : Int32).toNatClampNeg v.toInt64, by simp [vp_updL], fun k q hk => ?_⟩
    match k, hk with
    | 0, hk =>
      cases hk
      show H1[o]? = some (vp_cell _ _)
      rw [e1]
      rw [vp_cell_l, vp_cell_l, arrV_store]
      congr 2
      funext q
      have e0 : (0 : Int32).toNatClampNeg = 0 := rfl
      rw [e0]
      by_cases hq : q = 0
      · subst hq
        simp [updV, vp_updL]
      · simp [updV, vp_updL, hq]
    | k + 1, hk => simp at hk
  refine H_end hx hb hret hlocks h3 hm hc hs (by rw [z1]; exact hz) ((h5.kept (fun a ha => oq a (fun e2 => hoA (by have e3 : a = o := e2; rw [← e3]; exact h5.in ha)))).weak (fun q h => Or.inl h)) h7 hP1 (hS.put z1 oq (Or.inr rfl)) d5
end Hlp
set_option maxHeartbeats 1000000 in
theorem h_entry {l : Launch} {D : va_G} {g : Nat → Nat} {σ τ : PS} {gL o x : Nat} {ov : Int64} {a1 : Int32} {z : RZ} {r : Rs} (hC : Ctr l D g (zN τ + 1) (zS τ + 6) 67 [.ref x, .int a1] σ r τ) (hr : r = rzI [3] z) (hz : z.1 = 0 ∨ z.1 = 1) (hx8 : zK σ x = 8) (hm : zN σ ≤ zN τ ∧ zS σ ≤ zS τ) :
    Met l yL_entry (Cond.codeWith yL_entry method_3_code 4 (some .int) [(0, 9, 12, 13)] :: gW) (rmH 67 σ τ) (va_Pc [.ref x, .int a1, .ref o] (HP D g σ gL o ov)) (HQ D g σ τ gL o (if z.1 = 0 then (iI z.2.1).toInt64 else ov) (iI z.1)) (zN τ + 1 - zN σ) (zS τ + 6 - zS σ) (Ao σ o) := by
  refine met_of (XC := fun _ _ _ => False) (vx_ofWH (cc := method_3_code) (maxL := 4) (ret := some .int) (by decide) rfl ?_) (fun _ _ _ h => h)
  intro p e s m args below meth c s₁ B hml hP
  obtain ⟨rfl, h3, h5, h7, hE, hH, hPo, hKo, hNc, hol, hoA⟩ := hP
  have hts := atoms_spec (ws := Cond.codeWith yL_entry method_3_code 4 (some .int) [(0, 9, 12, 13)] :: gW) B.pre
  have htab := vx_table (x := yL_entry) B (hts _ List.mem_cons_self)
  have X : CallFix p m c method_3_code 4 s ([.ref x, .int a1, .ref o] : List Value).toArray gW RL := ⟨B.exec, B.bytes, hml, findClass_of_methodNamed B.named, fun w hw => hts w (List.mem_cons_of_mem _ hw)⟩
  have htg := X.2.2.2.2
  have hx := B.exec
  have hb := B.bytes
  have hret := B.returns
  have hlk := B.notSynchronized
  have hA : ∀ q, s.heap.size ≤ q → Ao σ o q := fun q hq => Or.inl (Or.inr (by omega))
  have hS0 : va_S (Ao σ o) s.heap s.heap [] := va_S.rf
  have h5a := h5.weak (B := Ao σ o) (fun q h => Or.inl h)
  have hcast := hE.2.2.2.2.2.2.2.2.2.2.2.2
  rw [lg_entry_eq]
  have hls := lsR_entry ([.ref x, .int a1, .ref o]) (n := 4) (Nat.le_of_ble_eq_true rfl)
  generalize (lg_sl ([.ref x, .int a1, .ref o]) ++ List.replicate (4 - (lg_sl ([.ref x, .int a1, .ref o])).length) Slot.unset).toArray = ls at hls ⊢
  have hls : lsR ls [some (.ref x), some (.int a1), some (.ref o), none] := hls
  refine z_aln hx hb hls dL_entry_0 rfl ?_
  refine lv_iconst (v := 0) hx hb dL_entry_1 (by decide) ?_
  refine z_aln hx hb hls dL_entry_2 rfl ?_
  refine z_iln hx hb hls dL_entry_3 rfl ?_
  rcases hz with hz | hz
  · have hr : r = Sum.inl (some (.int (iI z.2.1))) := by rw [hr, rzI, if_pos hz]
    subst hr
    refine L_go (L_run (As := [.int a1]) (rest := [.int 0, .ref o]) X hE hH hA (by decide) rfl rfl (by decide) hx8 gK_67 rfl dL_entry_4 (Nat.le_of_ble_eq_true rfl) ⟨Nat.le_refl _, Nat.le_refl _⟩ ⟨Nat.le_of_eq (Nat.zero_add _), Nat.le_of_eq (Nat.zero_add _)⟩ hC ⟨by omega, by omega⟩ h3 h5a hS0 h7 hls.1) hS0 (fun q h => Or.inl h) (fun H1 locs1 y1 y2 y3 y4 y5 y6 => ?_)
    rw [hz]
    rw [if_pos rfl]
    exact H_out (pc := 7) (pE := 15) hx hb hret hlk h3 hm (by omega) (by omega) (by omega) y3 y4 hKo (oW_kept hPo (y6 o (by omega) hoA)) hoA y5 dL_entry_7 dL_entry_8 dL_entry_9 (by decide) dL_entry_15 dL_entry_16
  · have hr : r = Sum.inr 3 := by rw [hr, rzI, if_neg (by rw [hz]; decide), hz]; rfl
    subst hr
    refine L_goT (L_run (As := [.int a1]) (rest := [.int 0, .ref o]) X hE hH hA (by decide) rfl rfl (by decide) hx8 gK_67 rfl dL_entry_4 (Nat.le_of_ble_eq_true rfl) ⟨Nat.le_refl _, Nat.le_refl _⟩ ⟨Nat.le_of_eq (Nat.zero_add _), Nat.le_of_eq (Nat.zero_add _)⟩ hC ⟨by omega, by omega⟩ h3 h5a hS0 h7 hls.1) hS0 (fun q h => Or.inl h) (fun H1 locs1 q ce y1 y2 y3 y4 y5 y6 y7 y8 => ?_)
    refine vx_catch (own := RL) (name := exN 3) (E := exN 3) X.2.2.2.1 [] ⟨0, 9, 12, 13⟩ [] htab (fun _ h => nomatch h) rfl (by decide) (htg _ gC_13) ((hcast (exN 3, exN 3) (by decide +kernel)).use rfl) y6 y7 y8 ?_
    refine z_asn hx hb hls dL_entry_12 (Nat.le_of_ble_eq_true rfl) (fun ls2 hls2 => ?_)
    refine lv_iconst (v := 1) hx hb dL_entry_13 (by decide) ?_
    rw [hz]
    rw [if_neg (by decide)]
    exact H_end hx hb hret hlk h3 hm (by omega) (by omega) y1 (y2.weak (fun q h => Or.inl h)) y3 (oW_kept hPo (y5 o (by omega) hoA)) y4 dL_entry_14
set_option maxHeartbeats 1000000 in
theorem h_key {l : Launch} {D : va_G} {g : Nat → Nat} {σ τ : PS} {gL o x : Nat} {ov : Int64} {a1 a2 : Int32} {z : RZ} {r : Rs} (hC : Ctr l D g (zN τ + 1) (zS τ + 6) 68 [.ref x, .int a1, .int a2] σ r τ) (hr : r = rzV [0, 2, 3] z) (hz : z.1 = 0 ∨ z.1 = 1 ∨ z.1 = 2 ∨ z.1 = 3) (hx8 : zK σ x = 8) (hm : zN σ ≤ zN τ ∧ zS σ ≤ zS τ) :
    Met l yL_key (Cond.codeWith yL_key method_4_code 4 (some .int) [(0, 6, 9, 19), (0, 6, 12, 21), (0, 6, 15, 13)] :: gW) (rmH 68 σ τ) (va_Pc [.ref x, .int a1, .int a2] (HP D g σ gL o ov)) (HQ D g σ τ gL o ov (iI z.1)) (zN τ + 1 - zN σ) (zS τ + 6 - zS σ) (Ao σ o) := by
  refine met_of (XC := fun _ _ _ => False) (vx_ofWH (cc := method_4_code) (maxL := 4) (ret := some .int) (by decide) rfl ?_) (fun _ _ _ h => h)
  intro p e s m args below meth c s₁ B hml hP
  obtain ⟨rfl, h3, h5, h7, hE, hH, hPo, hKo, hNc, hol, hoA⟩ := hP
  have hts := atoms_spec (ws := Cond.codeWith yL_key method_4_code 4 (some .int) [(0, 6, 9, 19), (0, 6, 12, 21), (0, 6, 15, 13)] :: gW) B.pre
  have htab := vx_table (x := yL_key) B (hts _ List.mem_cons_self)
  have X : CallFix p m c method_4_code 4 s ([.ref x, .int a1, .int a2] : List Value).toArray gW RL := ⟨B.exec, B.bytes, hml, findClass_of_methodNamed B.named, fun w hw => hts w (List.mem_cons_of_mem _ hw)⟩
  have htg := X.2.2.2.2
  have hx := B.exec
  have hb := B.bytes
  have hret := B.returns
  have hlk := B.notSynchronized
  have hA : ∀ q, s.heap.size ≤ q → Ao σ o q := fun q hq => Or.inl (Or.inr (by omega))
  have hS0 : va_S (Ao σ o) s.heap s.heap [] := va_S.rf
  have h5a := h5.weak (B := Ao σ o) (fun q h => Or.inl h)
  have hcast := hE.2.2.2.2.2.2.2.2.2.2.2.2
  rw [lg_entry_eq]
  have hls := lsR_entry ([.ref x, .int a1, .int a2]) (n := 4) (Nat.le_of_ble_eq_true rfl)
  generalize (lg_sl ([.ref x, .int a1, .int a2]) ++ List.replicate (4 - (lg_sl ([.ref x, .int a1, .int a2])).length) Slot.unset).toArray = ls at hls ⊢
  have hls : lsR ls [some (.ref x), some (.int a1), some (.int a2), none] := hls
  refine z_aln hx hb hls dL_key_0 rfl ?_
  refine z_iln hx hb hls dL_key_1 rfl ?_
  refine z_iln hx hb hls dL_key_2 rfl ?_
  rcases hz with hz | hz | hz | hz
  · have hr : r = Sum.inl (none) := by rw [hr, rzV, if_pos hz]
    subst hr
    refine L_go (L_run (As := [.int a1, .int a2]) (rest := []) X hE hH hA (by decide) rfl rfl (by decide) hx8 gK_68 rfl dL_key_3 (Nat.le_of_ble_eq_true rfl) ⟨Nat.le_refl _, Nat.le_refl _⟩ ⟨Nat.le_of_eq (Nat.zero_add _), Nat.le_of_eq (Nat.zero_add _)⟩ hC ⟨by omega, by omega⟩ h3 h5a hS0 h7 hls.1) hS0 (fun q h => Or.inl h) (fun H1 locs1 y1 y2 y3 y4 y5 y6 => ?_)
    rw [hz]
    refine lv_goto (tgt := 18) hx hb dL_key_6 (by decide) ?_
    refine lv_iconst (v := 0) hx hb dL_key_18 (by decide) ?_
    exact H_end hx hb hret hlk h3 hm (by omega) (by omega) (by omega) (y3.weak (fun q h => Or.inl h)) y4 (oW_kept hPo (y6 o (by omega) hoA)) y5 dL_key_19
  · have hr : r = Sum.inr 0 := by rw [hr, rzV, if_neg (by rw [hz]; decide), hz]; rfl
    subst hr
    refine L_goT (L_run (As := [.int a1, .int a2]) (rest := []) X hE hH hA (by decide) rfl rfl (by decide) hx8 gK_68 rfl dL_key_3 (Nat.le_of_ble_eq_true rfl) ⟨Nat.le_refl _, Nat.le_refl _⟩ ⟨Nat.le_of_eq (Nat.zero_add _), Nat.le_of_eq (Nat.zero_add _)⟩ hC ⟨by omega, by omega⟩ h3 h5a hS0 h7 hls.1) hS0 (fun q h => Or.inl h) (fun H1 locs1 q ce y1 y2 y3 y4 y5 y6 y7 y8 => ?_)
    refine vx_catch (own := RL) (name := exN 0) (E := exN 0) X.2.2.2.1 [] ⟨0, 6, 9, 19⟩ [⟨0, 6, 12, 21⟩, ⟨0, 6, 15, 13⟩] htab (fun _ h => nomatch h) rfl (by decide) (htg _ gC_19) ((hcast (exN 0, exN 0) (by decide +kernel)).use rfl) y6 y7 y8 ?_
    refine z_asn hx hb hls dL_key_9 (Nat.le_of_ble_eq_true rfl) (fun ls2 hls2 => ?_)
    refine lv_iconst (v := 1) hx hb dL_key_10 (by decide) ?_
    rw [hz]
    exact H_end hx hb hret hlk h3 hm (by omega) (by omega) y1 (y2.weak (fun q h => Or.inl h)) y3 (oW_kept hPo (y5 o (by omega) hoA)) y4 dL_key_11
  · have hr : r = Sum.inr 2 := by rw [hr, rzV, if_neg (by rw [hz]; decide), hz]; rfl
    subst hr
    refine L_goT (L_run (As := [.int a1, .int a2]) (rest := []) X hE hH hA (by decide) rfl rfl (by decide) hx8 gK_68 rfl dL_key_3 (Nat.le_of_ble_eq_true rfl) ⟨Nat.le_refl _, Nat.le_refl _⟩ ⟨Nat.le_of_eq (Nat.zero_add _), Nat.le_of_eq (Nat.zero_add _)⟩ hC ⟨by omega, by omega⟩ h3 h5a hS0 h7 hls.1) hS0 (fun q h => Or.inl h) (fun H1 locs1 q ce y1 y2 y3 y4 y5 y6 y7 y8 => ?_)
    refine vx_catch (own := RL) (name := exN 2) (E := exN 2) X.2.2.2.1 [⟨0, 6, 9, 19⟩] ⟨0, 6, 12, 21⟩ [⟨0, 6, 15, 13⟩] htab (fun v hv => by
      simp only [List.mem_cons, List.not_mem_nil, or_false] at hv
      rcases hv with rfl
      · exact Or.inr ⟨by decide, exN 0, htg _ gC_19, hNc 2 0 (by decide) (by decide) (by decide)⟩) rfl (by decide) (htg _ gC_21) ((hcast (exN 2, exN 2) (by decide +kernel)).use rfl) y6 y7 y8 ?_
    refine z_asn hx hb hls dL_key_12 (Nat.le_of_ble_eq_true rfl) (fun ls2 hls2 => ?_)
    refine lv_iconst (v := 2) hx hb dL_key_13 (by decide) ?_
    rw [hz]
    exact H_end hx hb hret hlk h3 hm (by omega) (by omega) y1 (y2.weak (fun q h => Or.inl h)) y3 (oW_kept hPo (y5 o (by omega) hoA)) y4 dL_key_14
  · have hr : r = Sum.inr 3 := by rw [hr, rzV, if_neg (by rw [hz]; decide), hz]; rfl
    subst hr
    refine L_goT (L_run (As := [.int a1, .int a2]) (rest := []) X hE hH hA (by decide) rfl rfl (by decide) hx8 gK_68 rfl dL_key_3 (Nat.le_of_ble_eq_true rfl) ⟨Nat.le_refl _, Nat.le_refl _⟩ ⟨Nat.le_of_eq (Nat.zero_add _), Nat.le_of_eq (Nat.zero_add _)⟩ hC ⟨by omega, by omega⟩ h3 h5a hS0 h7 hls.1) hS0 (fun q h => Or.inl h) (fun H1 locs1 q ce y1 y2 y3 y4 y5 y6 y7 y8 => ?_)
    refine vx_catch (own := RL) (name := exN 3) (E := exN 3) X.2.2.2.1 [⟨0, 6, 9, 19⟩, ⟨0, 6, 12, 21⟩] ⟨0, 6, 15, 13⟩ [] htab (fun v hv => by
      simp only [List.mem_cons, List.not_mem_nil, or_false] at hv
      rcases hv with rfl | rfl
      · exact Or.inr ⟨by decide, exN 0, htg _ gC_19, hNc 3 0 (by decide) (by decide) (by decide)⟩
      · exact Or.inr ⟨by decide, exN 2, htg _ gC_21, hNc 3 2 (by decide) (by decide) (by decide)⟩) rfl (by decide) (htg _ gC_13) ((hcast (exN 3, exN 3) (by decide +kernel)).use rfl) y6 y7 y8 ?_
    refine z_asn hx hb hls dL_key_15 (Nat.le_of_ble_eq_true rfl) (fun ls2 hls2 => ?_)
    refine lv_iconst (v := 3) hx hb dL_key_16 (by decide) ?_
    rw [hz]
    exact H_end hx hb hret hlk h3 hm (by omega) (by omega) y1 (y2.weak (fun q h => Or.inl h)) y3 (oW_kept hPo (y5 o (by omega) hoA)) y4 dL_key_17
set_option maxHeartbeats 1000000 in
theorem h_field {l : Launch} {D : va_G} {g : Nat → Nat} {σ τ : PS} {gL o x : Nat} {ov : Int64} {a1 a2 a3 : Int32} {z : RZ} {r : Rs} (hC : Ctr l D g (zN τ + 1) (zS τ + 6) 69 [.ref x, .int a1, .int a2, .int a3] σ r τ) (hr : r = rzV [0, 1, 2, 3] z) (hz : z.1 = 0 ∨ z.1 = 1 ∨ z.1 = 2 ∨ z.1 = 3 ∨ z.1 = 4) (hx8 : zK σ x = 8) (hm : zN σ ≤ zN τ ∧ zS σ ≤ zS τ) :
    Met l yL_field (Cond.codeWith yL_field method_5_code 5 (some .int) [(0, 7, 10, 19), (0, 7, 14, 27), (0, 7, 18, 21), (0, 7, 22, 13)] :: gW) (rmH 69 σ τ) (va_Pc [.ref x, .int a1, .int a2, .int a3] (HP D g σ gL o ov)) (HQ D g σ τ gL o ov (iI z.1)) (zN τ + 1 - zN σ) (zS τ + 6 - zS σ) (Ao σ o) := by
  refine met_of (XC := fun _ _ _ => False) (vx_ofWH (cc := method_5_code) (maxL := 5) (ret := some .int) (by decide) rfl ?_) (fun _ _ _ h => h)
  intro p e s m args below meth c s₁ B hml hP
  obtain ⟨rfl, h3, h5, h7, hE, hH, hPo, hKo, hNc, hol, hoA⟩ := hP
  have hts := atoms_spec (ws := Cond.codeWith yL_field method_5_code 5 (some .int) [(0, 7, 10, 19), (0, 7, 14, 27), (0, 7, 18, 21), (0, 7, 22, 13)] :: gW) B.pre
  have htab := vx_table (x := yL_field) B (hts _ List.mem_cons_self)
  have X : CallFix p m c method_5_code 5 s ([.ref x, .int a1, .int a2, .int a3] : List Value).toArray gW RL := ⟨B.exec, B.bytes, hml, findClass_of_methodNamed B.named, fun w hw => hts w (List.mem_cons_of_mem _ hw)⟩
  have htg := X.2.2.2.2
  have hx := B.exec
  have hb := B.bytes
  have hret := B.returns
  have hlk := B.notSynchronized
  have hA : ∀ q, s.heap.size ≤ q → Ao σ o q := fun q hq => Or.inl (Or.inr (by omega))
  have hS0 : va_S (Ao σ o) s.heap s.heap [] := va_S.rf
  have h5a := h5.weak (B := Ao σ o) (fun q h => Or.inl h)
  have hcast := hE.2.2.2.2.2.2.2.2.2.2.2.2
  rw [lg_entry_eq]
  have hls := lsR_entry ([.ref x, .int a1, .int a2, .int a3]) (n := 5) (Nat.le_of_ble_eq_true rfl)
  generalize (lg_sl ([.ref x, .int a1, .int a2, .int a3]) ++ List.replicate (5 - (lg_sl ([.ref x, .int a1, .int a2, .int a3])).length) Slot.unset).toArray = ls at hls ⊢
  have hls : lsR ls [some (.ref x), some (.int a1), some (.int a2), some (.int a3), none] := hls
  refine z_aln hx hb hls dL_field_0 rfl ?_
  refine z_iln hx hb hls dL_field_1 rfl ?_
  refine z_iln hx hb hls dL_field_2 rfl ?_
  refine z_iln hx hb hls dL_field_3 rfl ?_
  rcases hz with hz | hz | hz | hz | hz
  · have hr : r = Sum.inl (none) := by rw [hr, rzV, if_pos hz]
    subst hr
    refine L_go (L_run (As := [.int a1, .int a2, .int a3]) (rest := []) X hE hH hA (by decide) rfl rfl (by decide) hx8 gK_69 rfl dL_field_4 (Nat.le_of_ble_eq_true rfl) ⟨Nat.le_refl _, Nat.le_refl _⟩ ⟨Nat.le_of_eq (Nat.zero_add _), Nat.le_of_eq (Nat.zero_add _)⟩ hC ⟨by omega, by omega⟩ h3 h5a hS0 h7 hls.1) hS0 (fun q h => Or.inl h) (fun H1 locs1 y1 y2 y3 y4 y5 y6 => ?_)
    rw [hz]
    refine lv_goto (tgt := 26) hx hb dL_field_7 (by decide) ?_
    refine lv_iconst (v := 0) hx hb dL_field_26 (by decide) ?_
    exact H_end hx hb hret hlk h3 hm (by omega) (by omega) (by omega) (y3.weak (fun q h => Or.inl h)) y4 (oW_kept hPo (y6 o (by omega) hoA)) y5 dL_field_27
  · have hr : r = Sum.inr 0 := by rw [hr, rzV, if_neg (by rw [hz]; decide), hz]; rfl
    subst hr
    refine L_goT (L_run (As := [.int a1, .int a2, .int a3]) (rest := []) X hE hH hA (by decide) rfl rfl (by decide) hx8 gK_69 rfl dL_field_4 (Nat.le_of_ble_eq_true rfl) ⟨Nat.le_refl _, Nat.le_refl _⟩ ⟨Nat.le_of_eq (Nat.zero_add _), Nat.le_of_eq (Nat.zero_add _)⟩ hC ⟨by omega, by omega⟩ h3 h5a hS0 h7 hls.1) hS0 (fun q h => Or.inl h) (fun H1 locs1 q ce y1 y2 y3 y4 y5 y6 y7 y8 => ?_)
    refine vx_catch (own := RL) (name := exN 0) (E := exN 0) X.2.2.2.1 [] ⟨0, 7, 10, 19⟩ [⟨0, 7, 14, 27⟩, ⟨0, 7, 18, 21⟩, ⟨0, 7, 22, 13⟩] htab (fun _ h => nomatch h) rfl (by decide) (htg _ gC_19) ((hcast (exN 0, exN 0) (by decide +kernel)).use rfl) y6 y7 y8 ?_
    refine z_as hx hb hls dL_field_10 (Nat.le_of_ble_eq_true rfl) (fun ls2 hls2 => ?_)
    refine lv_iconst (v := 1) hx hb dL_field_12 (by decide) ?_
    rw [hz]
    exact H_end hx hb hret hlk h3 hm (by omega) (by omega) y1 (y2.weak (fun q h => Or.inl h)) y3 (oW_kept hPo (y5 o (by omega) hoA)) y4 dL_field_13
  · have hr : r = Sum.inr 1 := by rw [hr, rzV, if_neg (by rw [hz]; decide), hz]; rfl
    subst hr
    refine L_goT (L_run (As := [.int a1, .int a2, .int a3]) (rest := []) X hE hH hA (by decide) rfl rfl (by decide) hx8 gK_69 rfl dL_field_4 (Nat.le_of_ble_eq_true rfl) ⟨Nat.le_refl _, Nat.le_refl _⟩ ⟨Nat.le_of_eq (Nat.zero_add _), Nat.le_of_eq (Nat.zero_add _)⟩ hC ⟨by omega, by omega⟩ h3 h5a hS0 h7 hls.1) hS0 (fun q h => Or.inl h) (fun H1 locs1 q ce y1 y2 y3 y4 y5 y6 y7 y8 => ?_)
    refine vx_catch (own := RL) (name := exN 1) (E := exN 1) X.2.2.2.1 [⟨0, 7, 10, 19⟩] ⟨0, 7, 14, 27⟩ [⟨0, 7, 18, 21⟩, ⟨0, 7, 22, 13⟩] htab (fun v hv => by
      simp only [List.mem_cons, List.not_mem_nil, or_false] at hv
      rcases hv with rfl
      · exact Or.inr ⟨by decide, exN 0, htg _ gC_19, hNc 1 0 (by decide) (by decide) (by decide)⟩) rfl (by decide) (htg _ gC_27) ((hcast (exN 1, exN 1) (by decide +kernel)).use rfl) y6 y7 y8 ?_
    refine z_as hx hb hls dL_field_14 (Nat.le_of_ble_eq_true rfl) (fun ls2 hls2 => ?_)
    refine lv_iconst (v := 2) hx hb dL_field_16 (by decide) ?_
    rw [hz]
    exact H_end hx hb hret hlk h3 hm (by omega) (by omega) y1 (y2.weak (fun q h => Or.inl h)) y3 (oW_kept hPo (y5 o (by omega) hoA)) y4 dL_field_17
  · have hr : r = Sum.inr 2 := by rw [hr, rzV, if_neg (by rw [hz]; decide), hz]; rfl
    subst hr
    refine L_goT (L_run (As := [.int a1, .int a2, .int a3]) (rest := []) X hE hH hA (by decide) rfl rfl (by decide) hx8 gK_69 rfl dL_field_4 (Nat.le_of_ble_eq_true rfl) ⟨Nat.le_refl _, Nat.le_refl _⟩ ⟨Nat.le_of_eq (Nat.zero_add _), Nat.le_of_eq (Nat.zero_add _)⟩ hC ⟨by omega, by omega⟩ h3 h5a hS0 h7 hls.1) hS0 (fun q h => Or.inl h) (fun H1 locs1 q ce y1 y2 y3 y4 y5 y6 y7 y8 => ?_)
    refine vx_catch (own := RL) (name := exN 2) (E := exN 2) X.2.2.2.1 [⟨0, 7, 10, 19⟩, ⟨0, 7, 14, 27⟩] ⟨0, 7, 18, 21⟩ [⟨0, 7, 22, 13⟩] htab (fun v hv => by
      simp only [List.mem_cons, List.not_mem_nil, or_false] at hv
      rcases hv with rfl | rfl
      · exact Or.inr ⟨by decide, exN 0, htg _ gC_19, hNc 2 0 (by decide) (by decide) (by decide)⟩
      · exact Or.inr ⟨by decide, exN 1, htg _ gC_27, hNc 2 1 (by decide) (by decide) (by decide)⟩) rfl (by decide) (htg _ gC_21) ((hcast (exN 2, exN 2) (by decide +kernel)).use rfl) y6 y7 y8 ?_
    refine z_as hx hb hls dL_field_18 (Nat.le_of_ble_eq_true rfl) (fun ls2 hls2 => ?_)
    refine lv_iconst (v := 3) hx hb dL_field_20 (by decide) ?_
    rw [hz]
    exact H_end hx hb hret hlk h3 hm (by omega) (by omega) y1 (y2.weak (fun q h => Or.inl h)) y3 (oW_kept hPo (y5 o (by omega) hoA)) y4 dL_field_21
  · have hr : r = Sum.inr 3 := by rw [hr, rzV, if_neg (by rw [hz]; decide), hz]; rfl
    subst hr
    refine L_goT (L_run (As := [.int a1, .int a2, .int a3]) (rest := []) X hE hH hA (by decide) rfl rfl (by decide) hx8 gK_69 rfl dL_field_4 (Nat.le_of_ble_eq_true rfl) ⟨Nat.le_refl _, Nat.le_refl _⟩ ⟨Nat.le_of_eq (Nat.zero_add _), Nat.le_of_eq (Nat.zero_add _)⟩ hC ⟨by omega, by omega⟩ h3 h5a hS0 h7 hls.1) hS0 (fun q h => Or.inl h) (fun H1 locs1 q ce y1 y2 y3 y4 y5 y6 y7 y8 => ?_)
    refine vx_catch (own := RL) (name := exN 3) (E := exN 3) X.2.2.2.1 [⟨0, 7, 10, 19⟩, ⟨0, 7, 14, 27⟩, ⟨0, 7, 18, 21⟩] ⟨0, 7, 22, 13⟩ [] htab (fun v hv => by
      simp only [List.mem_cons, List.not_mem_nil, or_false] at hv
      rcases hv with rfl | rfl | rfl
      · exact Or.inr ⟨by decide, exN 0, htg _ gC_19, hNc 3 0 (by decide) (by decide) (by decide)⟩
      · exact Or.inr ⟨by decide, exN 1, htg _ gC_27, hNc 3 1 (by decide) (by decide) (by decide)⟩
      · exact Or.inr ⟨by decide, exN 2, htg _ gC_21, hNc 3 2 (by decide) (by decide) (by decide)⟩) rfl (by decide) (htg _ gC_13) ((hcast (exN 3, exN 3) (by decide +kernel)).use rfl) y6 y7 y8 ?_
    refine z_as hx hb hls dL_field_22 (Nat.le_of_ble_eq_true rfl) (fun ls2 hls2 => ?_)
    refine lv_iconst (v := 4) hx hb dL_field_24 (by decide) ?_
    rw [hz]
    exact H_end hx hb hret hlk h3 hm (by omega) (by omega) y1 (y2.weak (fun q h => Or.inl h)) y3 (oW_kept hPo (y5 o (by omega) hoA)) y4 dL_field_25
set_option maxHeartbeats 1000000 in
theorem h_cite {l : Launch} {D : va_G} {g : Nat → Nat} {σ τ : PS} {gL o x : Nat} {ov : Int64} {a1 : Int32} {z : RZ} {r : Rs} (hC : Ctr l D g (zN τ + 1) (zS τ + 6) 70 [.ref x, .int a1] σ r τ) (hr : r = rzI [0, 3] z) (hz : z.1 = 0 ∨ z.1 = 1 ∨ z.1 = 2) (hx8 : zK σ x = 8) (hm : zN σ ≤ zN τ ∧ zS σ ≤ zS τ) :
    Met l yL_cite (Cond.codeWith yL_cite method_6_code 4 (some .int) [(0, 9, 12, 19), (0, 9, 15, 13)] :: gW) (rmH 70 σ τ) (va_Pc [.ref x, .int a1, .ref o] (HP D g σ gL o ov)) (HQ D g σ τ gL o (if z.1 = 0 then (iI z.2.1).toInt64 else ov) (iI z.1)) (zN τ + 1 - zN σ) (zS τ + 6 - zS σ) (Ao σ o) := by
  refine met_of (XC := fun _ _ _ => False) (vx_ofWH (cc := method_6_code) (maxL := 4) (ret := some .int) (by decide) rfl ?_) (fun _ _ _ h => h)
  intro p e s m args below meth c s₁ B hml hP
  obtain ⟨rfl, h3, h5, h7, hE, hH, hPo, hKo, hNc, hol, hoA⟩ := hP
  have hts := atoms_spec (ws := Cond.codeWith yL_cite method_6_code 4 (some .int) [(0, 9, 12, 19), (0, 9, 15, 13)] :: gW) B.pre
  have htab := vx_table (x := yL_cite) B (hts _ List.mem_cons_self)
  have X : CallFix p m c method_6_code 4 s ([.ref x, .int a1, .ref o] : List Value).toArray gW RL := ⟨B.exec, B.bytes, hml, findClass_of_methodNamed B.named, fun w hw => hts w (List.mem_cons_of_mem _ hw)⟩
  have htg := X.2.2.2.2
  have hx := B.exec
  have hb := B.bytes
  have hret := B.returns
  have hlk := B.notSynchronized
  have hA : ∀ q, s.heap.size ≤ q → Ao σ o q := fun q hq => Or.inl (Or.inr (by omega))
  have hS0 : va_S (Ao σ o) s.heap s.heap [] := va_S.rf
  have h5a := h5.weak (B := Ao σ o) (fun q h => Or.inl h)
  have hcast := hE.2.2.2.2.2.2.2.2.2.2.2.2
  rw [lg_entry_eq]
  have hls := lsR_entry ([.ref x, .int a1, .ref o]) (n := 4) (Nat.le_of_ble_eq_true rfl)
  generalize (lg_sl ([.ref x, .int a1, .ref o]) ++ List.replicate (4 - (lg_sl ([.ref x, .int a1, .ref o])).length) Slot.unset).toArray = ls at hls ⊢
  have hls : lsR ls [some (.ref x), some (.int a1), some (.ref o), none] := hls
  refine z_aln hx hb hls dL_cite_0 rfl ?_
  refine lv_iconst (v := 0) hx hb dL_cite_1 (by decide) ?_
  refine z_aln hx hb hls dL_cite_2 rfl ?_
  refine z_iln hx hb hls dL_cite_3 rfl ?_
  rcases hz with hz | hz | hz
  · have hr : r = Sum.inl (some (.int (iI z.2.1))) := by rw [hr, rzI, if_pos hz]
    subst hr
    refine L_go (L_run (As := [.int a1]) (rest := [.int 0, .ref o]) X hE hH hA (by decide) rfl rfl (by decide) hx8 gK_70 rfl dL_cite_4 (Nat.le_of_ble_eq_true rfl) ⟨Nat.le_refl _, Nat.le_refl _⟩ ⟨Nat.le_of_eq (Nat.zero_add _), Nat.le_of_eq (Nat.zero_add _)⟩ hC ⟨by omega, by omega⟩ h3 h5a hS0 h7 hls.1) hS0 (fun q h => Or.inl h) (fun H1 locs1 y1 y2 y3 y4 y5 y6 => ?_)
    rw [hz]
    rw [if_pos rfl]
    exact H_out (pc := 7) (pE := 18) hx hb hret hlk h3 hm (by omega) (by omega) (by omega) y3 y4 hKo (oW_kept hPo (y6 o (by omega) hoA)) hoA y5 dL_cite_7 dL_cite_8 dL_cite_9 (by decide) dL_cite_18 dL_cite_19
  · have hr : r = Sum.inr 0 := by rw [hr, rzI, if_neg (by rw [hz]; decide), hz]; rfl
    subst hr
    refine L_goT (L_run (As := [.int a1]) (rest := [.int 0, .ref o]) X hE hH hA (by decide) rfl rfl (by decide) hx8 gK_70 rfl dL_cite_4 (Nat.le_of_ble_eq_true rfl) ⟨Nat.le_refl _, Nat.le_refl _⟩ ⟨Nat.le_of_eq (Nat.zero_add _), Nat.le_of_eq (Nat.zero_add _)⟩ hC ⟨by omega, by omega⟩ h3 h5a hS0 h7 hls.1) hS0 (fun q h => Or.inl h) (fun H1 locs1 q ce y1 y2 y3 y4 y5 y6 y7 y8 => ?_)
    refine vx_catch (own := RL) (name := exN 0) (E := exN 0) X.2.2.2.1 [] ⟨0, 9, 12, 19⟩ [⟨0, 9, 15, 13⟩] htab (fun _ h => nomatch h) rfl (by decide) (htg _ gC_19) ((hcast (exN 0, exN 0) (by decide +kernel)).use rfl) y6 y7 y8 ?_
    refine z_asn hx hb hls dL_cite_12 (Nat.le_of_ble_eq_true rfl) (fun ls2 hls2 => ?_)
    refine lv_iconst (v := 1) hx hb dL_cite_13 (by decide) ?_
    rw [hz]
    rw [if_neg (by decide)]
    exact H_end hx hb hret hlk h3 hm (by omega) (by omega) y1 (y2.weak (fun q h => Or.inl h)) y3 (oW_kept hPo (y5 o (by omega) hoA)) y4 dL_cite_14
  · have hr : r = Sum.inr 3 := by rw [hr, rzI, if_neg (by rw [hz]; decide), hz]; rfl
    subst hr
    refine L_goT (L_run (As := [.int a1]) (rest := [.int 0, .ref o]) X hE hH hA (by decide) rfl rfl (by decide) hx8 gK_70 rfl dL_cite_4 (Nat.le_of_ble_eq_true rfl) ⟨Nat.le_refl _, Nat.le_refl _⟩ ⟨Nat.le_of_eq (Nat.zero_add _), Nat.le_of_eq (Nat.zero_add _)⟩ hC ⟨by omega, by omega⟩ h3 h5a hS0 h7 hls.1) hS0 (fun q h => Or.inl h) (fun H1 locs1 q ce y1 y2 y3 y4 y5 y6 y7 y8 => ?_)
    refine vx_catch (own := RL) (name := exN 3) (E := exN 3) X.2.2.2.1 [⟨0, 9, 12, 19⟩] ⟨0, 9, 15, 13⟩ [] htab (fun v hv => by
      simp only [List.mem_cons, List.not_mem_nil, or_false] at hv
      rcases hv with rfl
      · exact Or.inr ⟨by decide, exN 0, htg _ gC_19, hNc 3 0 (by decide) (by decide) (by decide)⟩) rfl (by decide) (htg _ gC_13) ((hcast (exN 3, exN 3) (by decide +kernel)).use rfl) y6 y7 y8 ?_
    refine z_asn hx hb hls dL_cite_15 (Nat.le_of_ble_eq_true rfl) (fun ls2 hls2 => ?_)
    refine lv_iconst (v := 2) hx hb dL_cite_16 (by decide) ?_
    rw [hz]
    rw [if_neg (by decide)]
    exact H_end hx hb hret hlk h3 hm (by omega) (by omega) y1 (y2.weak (fun q h => Or.inl h)) y3 (oW_kept hPo (y5 o (by omega) hoA)) y4 dL_cite_17
set_option maxHeartbeats 1000000 in
theorem h_cross {l : Launch} {D : va_G} {g : Nat → Nat} {σ τ : PS} {gL o x : Nat} {ov : Int64} {a1 a2 : Int32} {z : RZ} {r : Rs} (hC : Ctr l D g (zN τ + 1) (zS τ + 6) 71 [.ref x, .int a1, .int a2] σ r τ) (hr : r = rzI [0] z) (hz : z.1 = 0 ∨ z.1 = 1) (hx8 : zK σ x = 8) (hm : zN σ ≤ zN τ ∧ zS σ ≤ zS τ) :
    Met l yL_cross (Cond.codeWith yL_cross method_7_code 5 (some .int) [(0, 10, 13, 19)] :: gW) (rmH 71 σ τ) (va_Pc [.ref x, .int a1, .int a2, .ref o] (HP D g σ gL o ov)) (HQ D g σ τ gL o (if z.1 = 0 then (iI z.2.1).toInt64 else ov) (iI z.1)) (zN τ + 1 - zN σ) (zS τ + 6 - zS σ) (Ao σ o) := by
  refine met_of (XC := fun _ _ _ => False) (vx_ofWH (cc := method_7_code) (maxL := 5) (ret := some .int) (by decide) rfl ?_) (fun _ _ _ h => h)
  intro p e s m args below meth c s₁ B hml hP
  obtain ⟨rfl, h3, h5, h7, hE, hH, hPo, hKo, hNc, hol, hoA⟩ := hP
  have hts := atoms_spec (ws := Cond.codeWith yL_cross method_7_code 5 (some .int) [(0, 10, 13, 19)] :: gW) B.pre
  have htab := vx_table (x := yL_cross) B (hts _ List.mem_cons_self)
  have X : CallFix p m c method_7_code 5 s ([.ref x, .int a1, .int a2, .ref o] : List Value).toArray gW RL := ⟨B.exec, B.bytes, hml, findClass_of_methodNamed B.named, fun w hw => hts w (List.mem_cons_of_mem _ hw)⟩
  have htg := X.2.2.2.2
  have hx := B.exec
  have hb := B.bytes
  have hret := B.returns
  have hlk := B.notSynchronized
  have hA : ∀ q, s.heap.size ≤ q → Ao σ o q := fun q hq => Or.inl (Or.inr (by omega))
  have hS0 : va_S (Ao σ o) s.heap s.heap [] := va_S.rf
  have h5a := h5.weak (B := Ao σ o) (fun q h => Or.inl h)
  have hcast := hE.2.2.2.2.2.2.2.2.2.2.2.2
  rw [lg_entry_eq]
  have hls := lsR_entry ([.ref x, .int a1, .int a2, .ref o]) (n := 5) (Nat.le_of_ble_eq_true rfl)
  generalize (lg_sl ([.ref x, .int a1, .int a2, .ref o]) ++ List.replicate (5 - (lg_sl ([.ref x, .int a1, .int a2, .ref o])).length) Slot.unset).toArray = ls at hls ⊢
  have hls : lsR ls [some (.ref x), some (.int a1), some (.int a2), some (.ref o), none] := hls
  refine z_aln hx hb hls dL_cross_0 rfl ?_
  refine lv_iconst (v := 0) hx hb dL_cross_1 (by decide) ?_
  refine z_aln hx hb hls dL_cross_2 rfl ?_
  refine z_iln hx hb hls dL_cross_3 rfl ?_
  refine z_iln hx hb hls dL_cross_4 rfl ?_
  rcases hz with hz | hz
  · have hr : r = Sum.inl (some (.int (iI z.2.1))) := by rw [hr, rzI, if_pos hz]
    subst hr
    refine L_go (L_run (As := [.int a1, .int a2]) (rest := [.int 0, .ref o]) X hE hH hA (by decide) rfl rfl (by decide) hx8 gK_71 rfl dL_cross_5 (Nat.le_of_ble_eq_true rfl) ⟨Nat.le_refl _, Nat.le_refl _⟩ ⟨Nat.le_of_eq (Nat.zero_add _), Nat.le_of_eq (Nat.zero_add _)⟩ hC ⟨by omega, by omega⟩ h3 h5a hS0 h7 hls.1) hS0 (fun q h => Or.inl h) (fun H1 locs1 y1 y2 y3 y4 y5 y6 => ?_)
    rw [hz]
    rw [if_pos rfl]
    exact H_out (pc := 8) (pE := 17) hx hb hret hlk h3 hm (by omega) (by omega) (by omega) y3 y4 hKo (oW_kept hPo (y6 o (by omega) hoA)) hoA y5 dL_cross_8 dL_cross_9 dL_cross_10 (by decide) dL_cross_17 dL_cross_18
  · have hr : r = Sum.inr 0 := by rw [hr, rzI, if_neg (by rw [hz]; decide), hz]; rfl
    subst hr
    refine L_goT (L_run (As := [.int a1, .int a2]) (rest := [.int 0, .ref o]) X hE hH hA (by decide) rfl rfl (by decide) hx8 gK_71 rfl dL_cross_5 (Nat.le_of_ble_eq_true rfl) ⟨Nat.le_refl _, Nat.le_refl _⟩ ⟨Nat.le_of_eq (Nat.zero_add _), Nat.le_of_eq (Nat.zero_add _)⟩ hC ⟨by omega, by omega⟩ h3 h5a hS0 h7 hls.1) hS0 (fun q h => Or.inl h) (fun H1 locs1 q ce y1 y2 y3 y4 y5 y6 y7 y8 => ?_)
    refine vx_catch (own := RL) (name := exN 0) (E := exN 0) X.2.2.2.1 [] ⟨0, 10, 13, 19⟩ [] htab (fun _ h => nomatch h) rfl (by decide) (htg _ gC_19) ((hcast (exN 0, exN 0) (by decide +kernel)).use rfl) y6 y7 y8 ?_
    refine z_as hx hb hls dL_cross_13 (Nat.le_of_ble_eq_true rfl) (fun ls2 hls2 => ?_)
    refine lv_iconst (v := 1) hx hb dL_cross_15 (by decide) ?_
    rw [hz]
    rw [if_neg (by decide)]
    exact H_end hx hb hret hlk h3 hm (by omega) (by omega) y1 (y2.weak (fun q h => Or.inl h)) y3 (oW_kept hPo (y5 o (by omega) hoA)) y4 dL_cross_16
set_option maxHeartbeats 1000000 in
theorem h_style {l : Launch} {D : va_G} {g : Nat → Nat} {σ τ : PS} {gL o x : Nat} {ov : Int64} {a1 a2 : Int32} {z : RZ} {r : Rs} (hC : Ctr l D g (zN τ + 1) (zS τ + 6) 72 [.ref x, .int a1, .int a2] σ r τ) (hr : r = rzI [2] z) (hz : z.1 = 0 ∨ z.1 = 1) (hx8 : zK σ x = 8) (hm : zN σ ≤ zN τ ∧ zS σ ≤ zS τ) :
    Met l yL_style (Cond.codeWith yL_style method_8_code 5 (some .int) [(0, 10, 13, 21)] :: gW) (rmH 72 σ τ) (va_Pc [.ref x, .int a1, .int a2, .ref o] (HP D g σ gL o ov)) (HQ D g σ τ gL o (if z.1 = 0 then (iI z.2.1).toInt64 else ov) (iI z.1)) (zN τ + 1 - zN σ) (zS τ + 6 - zS σ) (Ao σ o) := by
  refine met_of (XC := fun _ _ _ => False) (vx_ofWH (cc := method_8_code) (maxL := 5) (ret := some .int) (by decide) rfl ?_) (fun _ _ _ h => h)
  intro p e s m args below meth c s₁ B hml hP
  obtain ⟨rfl, h3, h5, h7, hE, hH, hPo, hKo, hNc, hol, hoA⟩ := hP
  have hts := atoms_spec (ws := Cond.codeWith yL_style method_8_code 5 (some .int) [(0, 10, 13, 21)] :: gW) B.pre
  have htab := vx_table (x := yL_style) B (hts _ List.mem_cons_self)
  have X : CallFix p m c method_8_code 5 s ([.ref x, .int a1, .int a2, .ref o] : List Value).toArray gW RL := ⟨B.exec, B.bytes, hml, findClass_of_methodNamed B.named, fun w hw => hts w (List.mem_cons_of_mem _ hw)⟩
  have htg := X.2.2.2.2
  have hx := B.exec
  have hb := B.bytes
  have hret := B.returns
  have hlk := B.notSynchronized
  have hA : ∀ q, s.heap.size ≤ q → Ao σ o q := fun q hq => Or.inl (Or.inr (by omega))
  have hS0 : va_S (Ao σ o) s.heap s.heap [] := va_S.rf
  have h5a := h5.weak (B := Ao σ o) (fun q h => Or.inl h)
  have hcast := hE.2.2.2.2.2.2.2.2.2.2.2.2
  rw [lg_entry_eq]
  have hls := lsR_entry ([.ref x, .int a1, .int a2, .ref o]) (n := 5) (Nat.le_of_ble_eq_true rfl)
  generalize (lg_sl ([.ref x, .int a1, .int a2, .ref o]) ++ List.replicate (5 - (lg_sl ([.ref x, .int a1, .int a2, .ref o])).length) Slot.unset).toArray = ls at hls ⊢
  have hls : lsR ls [some (.ref x), some (.int a1), some (.int a2), some (.ref o), none] := hls
  refine z_aln hx hb hls dL_style_0 rfl ?_
  refine lv_iconst (v := 0) hx hb dL_style_1 (by decide) ?_
  refine z_aln hx hb hls dL_style_2 rfl ?_
  refine z_iln hx hb hls dL_style_3 rfl ?_
  refine z_iln hx hb hls dL_style_4 rfl ?_
  rcases hz with hz | hz
  · have hr : r = Sum.inl (some (.int (iI z.2.1))) := by rw [hr, rzI, if_pos hz]
    subst hr
    refine L_go (L_run (As := [.int a1, .int a2]) (rest := [.int 0, .ref o]) X hE hH hA (by decide) rfl rfl (by decide) hx8 gK_72 rfl dL_style_5 (Nat.le_of_ble_eq_true rfl) ⟨Nat.le_refl _, Nat.le_refl _⟩ ⟨Nat.le_of_eq (Nat.zero_add _), Nat.le_of_eq (Nat.zero_add _)⟩ hC ⟨by omega, by omega⟩ h3 h5a hS0 h7 hls.1) hS0 (fun q h => Or.inl h) (fun H1 locs1 y1 y2 y3 y4 y5 y6 => ?_)
    rw [hz]
    rw [if_pos rfl]
    exact H_out (pc := 8) (pE := 17) hx hb hret hlk h3 hm (by omega) (by omega) (by omega) y3 y4 hKo (oW_kept hPo (y6 o (by omega) hoA)) hoA y5 dL_style_8 dL_style_9 dL_style_10 (by decide) dL_style_17 dL_style_18
  · have hr : r = Sum.inr 2 := by rw [hr, rzI, if_neg (by rw [hz]; decide), hz]; rfl
    subst hr
    refine L_goT (L_run (As := [.int a1, .int a2]) (rest := [.int 0, .ref o]) X hE hH hA (by decide) rfl rfl (by decide) hx8 gK_72 rfl dL_style_5 (Nat.le_of_ble_eq_true rfl) ⟨Nat.le_refl _, Nat.le_refl _⟩ ⟨Nat.le_of_eq (Nat.zero_add _), Nat.le_of_eq (Nat.zero_add _)⟩ hC ⟨by omega, by omega⟩ h3 h5a hS0 h7 hls.1) hS0 (fun q h => Or.inl h) (fun H1 locs1 q ce y1 y2 y3 y4 y5 y6 y7 y8 => ?_)
    refine vx_catch (own := RL) (name := exN 2) (E := exN 2) X.2.2.2.1 [] ⟨0, 10, 13, 21⟩ [] htab (fun _ h => nomatch h) rfl (by decide) (htg _ gC_21) ((hcast (exN 2, exN 2) (by decide +kernel)).use rfl) y6 y7 y8 ?_
    refine z_as hx hb hls dL_style_13 (Nat.le_of_ble_eq_true rfl) (fun ls2 hls2 => ?_)
    refine lv_iconst (v := 1) hx hb dL_style_15 (by decide) ?_
    rw [hz]
    rw [if_neg (by decide)]
    exact H_end hx hb hret hlk h3 hm (by omega) (by omega) y1 (y2.weak (fun q h => Or.inl h)) y3 (oW_kept hPo (y5 o (by omega) hoA)) y4 dL_style_16
set_option maxHeartbeats 1000000 in
theorem h_row {l : Launch} {D : va_G} {g : Nat → Nat} {σ τ : PS} {gL o x : Nat} {ov : Int64} {a1 : Int32} {z : RZ} {r : Rs} (hC : Ctr l D g (zN τ + 1) (zS τ + 6) 74 [.ref x, .int a1] σ r τ) (hr : r = rzI [1] z) (hz : z.1 = 0 ∨ z.1 = 1) (hx8 : zK σ x = 8) (hm : zN σ ≤ zN τ ∧ zS σ ≤ zS τ) :
    Met l yL_row (Cond.codeWith yL_row method_9_code 4 (some .int) [(0, 9, 12, 27)] :: gW) (rmH 74 σ τ) (va_Pc [.ref x, .int a1, .ref o] (HP D g σ gL o ov)) (HQ D g σ τ gL o (if z.1 = 0 then (iI z.2.1).toInt64 else ov) (iI z.1)) (zN τ + 1 - zN σ) (zS τ + 6 - zS σ) (Ao σ o) := by
  refine met_of (XC := fun _ _ _ => False) (vx_ofWH (cc := method_9_code) (maxL := 4) (ret := some .int) (by decide) rfl ?_) (fun _ _ _ h => h)
  intro p e s m args below meth c s₁ B hml hP
  obtain ⟨rfl, h3, h5, h7, hE, hH, hPo, hKo, hNc, hol, hoA⟩ := hP
  have hts := atoms_spec (ws := Cond.codeWith yL_row method_9_code 4 (some .int) [(0, 9, 12, 27)] :: gW) B.pre
  have htab := vx_table (x := yL_row) B (hts _ List.mem_cons_self)
  have X : CallFix p m c method_9_code 4 s ([.ref x, .int a1, .ref o] : List Value).toArray gW RL := ⟨B.exec, B.bytes, hml, findClass_of_methodNamed B.named, fun w hw => hts w (List.mem_cons_of_mem _ hw)⟩
  have htg := X.2.2.2.2
  have hx := B.exec
  have hb := B.bytes
  have hret := B.returns
  have hlk := B.notSynchronized
  have hA : ∀ q, s.heap.size ≤ q → Ao σ o q := fun q hq => Or.inl (Or.inr (by omega))
  have hS0 : va_S (Ao σ o) s.heap s.heap [] := va_S.rf
  have h5a := h5.weak (B := Ao σ o) (fun q h => Or.inl h)
  have hcast := hE.2.2.2.2.2.2.2.2.2.2.2.2
  rw [lg_entry_eq]
  have hls := lsR_entry ([.ref x, .int a1, .ref o]) (n := 4) (Nat.le_of_ble_eq_true rfl)
  generalize (lg_sl ([.ref x, .int a1, .ref o]) ++ List.replicate (4 - (lg_sl ([.ref x, .int a1, .ref o])).length) Slot.unset).toArray = ls at hls ⊢
  have hls : lsR ls [some (.ref x), some (.int a1), some (.ref o), none] := hls
  refine z_aln hx hb hls dL_row_0 rfl ?_
  refine lv_iconst (v := 0) hx hb dL_row_1 (by decide) ?_
  refine z_aln hx hb hls dL_row_2 rfl ?_
  refine z_iln hx hb hls dL_row_3 rfl ?_
  rcases hz with hz | hz
  · have hr : r = Sum.inl (some (.int (iI z.2.1))) := by rw [hr, rzI, if_pos hz]
    subst hr
    refine L_go (L_run (As := [.int a1]) (rest := [.int 0, .ref o]) X hE hH hA (by decide) rfl rfl (by decide) hx8 gK_74 rfl dL_row_4 (Nat.le_of_ble_eq_true rfl) ⟨Nat.le_refl _, Nat.le_refl _⟩ ⟨Nat.le_of_eq (Nat.zero_add _), Nat.le_of_eq (Nat.zero_add _)⟩ hC ⟨by omega, by omega⟩ h3 h5a hS0 h7 hls.1) hS0 (fun q h => Or.inl h) (fun H1 locs1 y1 y2 y3 y4 y5 y6 => ?_)
    rw [hz]
    rw [if_pos rfl]
    exact H_out (pc := 7) (pE := 15) hx hb hret hlk h3 hm (by omega) (by omega) (by omega) y3 y4 hKo (oW_kept hPo (y6 o (by omega) hoA)) hoA y5 dL_row_7 dL_row_8 dL_row_9 (by decide) dL_row_15 dL_row_16
  · have hr : r = Sum.inr 1 := by rw [hr, rzI, if_neg (by rw [hz]; decide), hz]; rfl
    subst hr
    refine L_goT (L_run (As := [.int a1]) (rest := [.int 0, .ref o]) X hE hH hA (by decide) rfl rfl (by decide) hx8 gK_74 rfl dL_row_4 (Nat.le_of_ble_eq_true rfl) ⟨Nat.le_refl _, Nat.le_refl _⟩ ⟨Nat.le_of_eq (Nat.zero_add _), Nat.le_of_eq (Nat.zero_add _)⟩ hC ⟨by omega, by omega⟩ h3 h5a hS0 h7 hls.1) hS0 (fun q h => Or.inl h) (fun H1 locs1 q ce y1 y2 y3 y4 y5 y6 y7 y8 => ?_)
    refine vx_catch (own := RL) (name := exN 1) (E := exN 1) X.2.2.2.1 [] ⟨0, 9, 12, 27⟩ [] htab (fun _ h => nomatch h) rfl (by decide) (htg _ gC_27) ((hcast (exN 1, exN 1) (by decide +kernel)).use rfl) y6 y7 y8 ?_
    refine z_asn hx hb hls dL_row_12 (Nat.le_of_ble_eq_true rfl) (fun ls2 hls2 => ?_)
    refine lv_iconst (v := 1) hx hb dL_row_13 (by decide) ?_
    rw [hz]
    rw [if_neg (by decide)]
    exact H_end hx hb hret hlk h3 hm (by omega) (by omega) y1 (y2.weak (fun q h => Or.inl h)) y3 (oW_kept hPo (y5 o (by omega) hoA)) y4 dL_row_14
set_option maxHeartbeats 1000000 in
theorem h_letter {l : Launch} {D : va_G} {g : Nat → Nat} {σ τ : PS} {gL o x : Nat} {ov : Int64} {a1 : Int32} {z : RZ} {r : Rs} (hC : Ctr l D g (zN τ + 1) (zS τ + 6) 75 [.ref x, .int a1] σ r τ) (hr : r = rzI [1] z) (hz : z.1 = 0 ∨ z.1 = 1) (hx8 : zK σ x = 8) (hm : zN σ ≤ zN τ ∧ zS σ ≤ zS τ) :
    Met l yL_letter (Cond.codeWith yL_letter method_10_code 4 (some .int) [(0, 9, 12, 27)] :: gW) (rmH 75 σ τ) (va_Pc [.ref x, .int a1, .ref o] (HP D g σ gL o ov)) (HQ D g σ τ gL o (if z.1 = 0 then (iI z.2.1).toInt64 else ov) (iI z.1)) (zN τ + 1 - zN σ) (zS τ + 6 - zS σ) (Ao σ o) := by
  refine met_of (XC := fun _ _ _ => False) (vx_ofWH (cc := method_10_code) (maxL := 4) (ret := some .int) (by decide) rfl ?_) (fun _ _ _ h => h)
  intro p e s m args below meth c s₁ B hml hP
  obtain ⟨rfl, h3, h5, h7, hE, hH, hPo, hKo, hNc, hol, hoA⟩ := hP
  have hts := atoms_spec (ws := Cond.codeWith yL_letter method_10_code 4 (some .int) [(0, 9, 12, 27)] :: gW) B.pre
  have htab := vx_table (x := yL_letter) B (hts _ List.mem_cons_self)
  have X : CallFix p m c method_10_code 4 s ([.ref x, .int a1, .ref o] : List Value).toArray gW RL := ⟨B.exec, B.bytes, hml, findClass_of_methodNamed B.named, fun w hw => hts w (List.mem_cons_of_mem _ hw)⟩
  have htg := X.2.2.2.2
  have hx := B.exec
  have hb := B.bytes
  have hret := B.returns
  have hlk := B.notSynchronized
  have hA : ∀ q, s.heap.size ≤ q → Ao σ o q := fun q hq => Or.inl (Or.inr (by omega))
  have hS0 : va_S (Ao σ o) s.heap s.heap [] := va_S.rf
  have h5a := h5.weak (B := Ao σ o) (fun q h => Or.inl h)
  have hcast := hE.2.2.2.2.2.2.2.2.2.2.2.2
  rw [lg_entry_eq]
  have hls := lsR_entry ([.ref x, .int a1, .ref o]) (n := 4) (Nat.le_of_ble_eq_true rfl)
  generalize (lg_sl ([.ref x, .int a1, .ref o]) ++ List.replicate (4 - (lg_sl ([.ref x, .int a1, .ref o])).length) Slot.unset).toArray = ls at hls ⊢
  have hls : lsR ls [some (.ref x), some (.int a1), some (.ref o), none] := hls
  refine z_aln hx hb hls dL_letter_0 rfl ?_
  refine lv_iconst (v := 0) hx hb dL_letter_1 (by decide) ?_
  refine z_aln hx hb hls dL_letter_2 rfl ?_
  refine z_iln hx hb hls dL_letter_3 rfl ?_
  rcases hz with hz | hz
  · have hr : r = Sum.inl (some (.int (iI z.2.1))) := by rw [hr, rzI, if_pos hz]
    subst hr
    refine L_go (L_run (As := [.int a1]) (rest := [.int 0, .ref o]) X hE hH hA (by decide) rfl rfl (by decide) hx8 gK_75 rfl dL_letter_4 (Nat.le_of_ble_eq_true rfl) ⟨Nat.le_refl _, Nat.le_refl _⟩ ⟨Nat.le_of_eq (Nat.zero_add _), Nat.le_of_eq (Nat.zero_add _)⟩ hC ⟨by omega, by omega⟩ h3 h5a hS0 h7 hls.1) hS0 (fun q h => Or.inl h) (fun H1 locs1 y1 y2 y3 y4 y5 y6 => ?_)
    rw [hz]
    rw [if_pos rfl]
    exact H_out (pc := 7) (pE := 15) hx hb hret hlk h3 hm (by omega) (by omega) (by omega) y3 y4 hKo (oW_kept hPo (y6 o (by omega) hoA)) hoA y5 dL_letter_7 dL_letter_8 dL_letter_9 (by decide) dL_letter_15 dL_letter_16
  · have hr : r = Sum.inr 1 := by rw [hr, rzI, if_neg (by rw [hz]; decide), hz]; rfl
    subst hr
    refine L_goT (L_run (As := [.int a1]) (rest := [.int 0, .ref o]) X hE hH hA (by decide) rfl rfl (by decide) hx8 gK_75 rfl dL_letter_4 (Nat.le_of_ble_eq_true rfl) ⟨Nat.le_refl _, Nat.le_refl _⟩ ⟨Nat.le_of_eq (Nat.zero_add _), Nat.le_of_eq (Nat.zero_add _)⟩ hC ⟨by omega, by omega⟩ h3 h5a hS0 h7 hls.1) hS0 (fun q h => Or.inl h) (fun H1 locs1 q ce y1 y2 y3 y4 y5 y6 y7 y8 => ?_)
    refine vx_catch (own := RL) (name := exN 1) (E := exN 1) X.2.2.2.1 [] ⟨0, 9, 12, 27⟩ [] htab (fun _ h => nomatch h) rfl (by decide) (htg _ gC_27) ((hcast (exN 1, exN 1) (by decide +kernel)).use rfl) y6 y7 y8 ?_
    refine z_asn hx hb hls dL_letter_12 (Nat.le_of_ble_eq_true rfl) (fun ls2 hls2 => ?_)
    refine lv_iconst (v := 1) hx hb dL_letter_13 (by decide) ?_
    rw [hz]
    rw [if_neg (by decide)]
    exact H_end hx hb hret hlk h3 hm (by omega) (by omega) y1 (y2.weak (fun q h => Or.inl h)) y3 (oW_kept hPo (y5 o (by omega) hoA)) y4 dL_letter_14
set_option maxHeartbeats 1000000 in
theorem h_initials {l : Launch} {D : va_G} {g : Nat → Nat} {σ τ : PS} {gL o x : Nat} {ov : Int64} {a1 a2 a3 : Int32} {z : RZ} {r : Rs} (hC : Ctr l D g (zN τ + 1) (zS τ + 6) 76 [.ref x, .int a1, .int a2, .int a3] σ r τ) (hr : r = rzI [0, 1] z) (hz : z.1 = 0 ∨ z.1 = 1 ∨ z.1 = 2) (hx8 : zK σ x = 8) (hm : zN σ ≤ zN τ ∧ zS σ ≤ zS τ) :
    Met l yL_initials (Cond.codeWith yL_initials method_11_code 6 (some .int) [(0, 12, 15, 19), (0, 12, 19, 27)] :: gW) (rmH 76 σ τ) (va_Pc [.ref x, .int a1, .int a2, .int a3, .ref o] (HP D g σ gL o ov)) (HQ D g σ τ gL o (if z.1 = 0 then (iI z.2.1).toInt64 else ov) (iI z.1)) (zN τ + 1 - zN σ) (zS τ + 6 - zS σ) (Ao σ o) := by
  refine met_of (XC := fun _ _ _ => False) (vx_ofWH (cc := method_11_code) (maxL := 6) (ret := some .int) (by decide) rfl ?_) (fun _ _ _ h => h)
  intro p e s m args below meth c s₁ B hml hP
  obtain ⟨rfl, h3, h5, h7, hE, hH, hPo, hKo, hNc, hol, hoA⟩ := hP
  have hts := atoms_spec (ws := Cond.codeWith yL_initials method_11_code 6 (some .int) [(0, 12, 15, 19), (0, 12, 19, 27)] :: gW) B.pre
  have htab := vx_table (x := yL_initials) B (hts _ List.mem_cons_self)
  have X : CallFix p m c method_11_code 6 s ([.ref x, .int a1, .int a2, .int a3, .ref o] : List Value).toArray gW RL := ⟨B.exec, B.bytes, hml, findClass_of_methodNamed B.named, fun w hw => hts w (List.mem_cons_of_mem _ hw)⟩
  have htg := X.2.2.2.2
  have hx := B.exec
  have hb := B.bytes
  have hret := B.returns
  have hlk := B.notSynchronized
  have hA : ∀ q, s.heap.size ≤ q → Ao σ o q := fun q hq => Or.inl (Or.inr (by omega))
  have hS0 : va_S (Ao σ o) s.heap s.heap [] := va_S.rf
  have h5a := h5.weak (B := Ao σ o) (fun q h => Or.inl h)
  have hcast := hE.2.2.2.2.2.2.2.2.2.2.2.2
  rw [lg_entry_eq]
  have hls := lsR_entry ([.ref x, .int a1, .int a2, .int a3, .ref o]) (n := 6) (Nat.le_of_ble_eq_true rfl)
  generalize (lg_sl ([.ref x, .int a1, .int a2, .int a3, .ref o]) ++ List.replicate (6 - (lg_sl ([.ref x, .int a1, .int a2, .int a3, .ref o])).length) Slot.unset).toArray = ls at hls ⊢
  have hls : lsR ls [some (.ref x), some (.int a1), some (.int a2), some (.int a3), some (.ref o), none] := hls
  refine z_al hx hb hls dL_initials_0 rfl ?_
  refine lv_iconst (v := 0) hx hb dL_initials_2 (by decide) ?_
  refine z_aln hx hb hls dL_initials_3 rfl ?_
  refine z_iln hx hb hls dL_initials_4 rfl ?_
  refine z_iln hx hb hls dL_initials_5 rfl ?_
  refine z_iln hx hb hls dL_initials_6 rfl ?_
  rcases hz with hz | hz | hz
  · have hr : r = Sum.inl (some (.int (iI z.2.1))) := by rw [hr, rzI, if_pos hz]
    subst hr
    refine L_go (L_run (As := [.int a1, .int a2, .int a3]) (rest := [.int 0, .ref o]) X hE hH hA (by decide) rfl rfl (by decide) hx8 gK_76 rfl dL_initials_7 (Nat.le_of_ble_eq_true rfl) ⟨Nat.le_refl _, Nat.le_refl _⟩ ⟨Nat.le_of_eq (Nat.zero_add _), Nat.le_of_eq (Nat.zero_add _)⟩ hC ⟨by omega, by omega⟩ h3 h5a hS0 h7 hls.1) hS0 (fun q h => Or.inl h) (fun H1 locs1 y1 y2 y3 y4 y5 y6 => ?_)
    rw [hz]
    rw [if_pos rfl]
    exact H_out (pc := 10) (pE := 23) hx hb hret hlk h3 hm (by omega) (by omega) (by omega) y3 y4 hKo (oW_kept hPo (y6 o (by omega) hoA)) hoA y5 dL_initials_10 dL_initials_11 dL_initials_12 (by decide) dL_initials_23 dL_initials_24
  · have hr : r = Sum.inr 0 := by rw [hr, rzI, if_neg (by rw [hz]; decide), hz]; rfl
    subst hr
    refine L_goT (L_run (As := [.int a1, .int a2, .int a3]) (rest := [.int 0, .ref o]) X hE hH hA (by decide) rfl rfl (by decide) hx8 gK_76 rfl dL_initials_7 (Nat.le_of_ble_eq_true rfl) ⟨Nat.le_refl _, Nat.le_refl _⟩ ⟨Nat.le_of_eq (Nat.zero_add _), Nat.le_of_eq (Nat.zero_add _)⟩ hC ⟨by omega, by omega⟩ h3 h5a hS0 h7 hls.1) hS0 (fun q h => Or.inl h) (fun H1 locs1 q ce y1 y2 y3 y4 y5 y6 y7 y8 => ?_)
    refine vx_catch (own := RL) (name := exN 0) (E := exN 0) X.2.2.2.1 [] ⟨0, 12, 15, 19⟩ [⟨0, 12, 19, 27⟩] htab (fun _ h => nomatch h) rfl (by decide) (htg _ gC_19) ((hcast (exN 0, exN 0) (by decide +kernel)).use rfl) y6 y7 y8 ?_
    refine z_as hx hb hls dL_initials_15 (Nat.le_of_ble_eq_true rfl) (fun ls2 hls2 => ?_)
    refine lv_iconst (v := 1) hx hb dL_initials_17 (by decide) ?_
    rw [hz]
    rw [if_neg (by decide)]
    exact H_end hx hb hret hlk h3 hm (by omega) (by omega) y1 (y2.weak (fun q h => Or.inl h)) y3 (oW_kept hPo (y5 o (by omega) hoA)) y4 dL_initials_18
  · have hr : r = Sum.inr 1 := by rw [hr, rzI, if_neg (by rw [hz]; decide), hz]; rfl
    subst hr
    refine L_goT (L_run (As := [.int a1, .int a2, .int a3]) (rest := [.int 0, .ref o]) X hE hH hA (by decide) rfl rfl (by decide) hx8 gK_76 rfl dL_initials_7 (Nat.le_of_ble_eq_true rfl) ⟨Nat.le_refl _, Nat.le_refl _⟩ ⟨Nat.le_of_eq (Nat.zero_add _), Nat.le_of_eq (Nat.zero_add _)⟩ hC ⟨by omega, by omega⟩ h3 h5a hS0 h7 hls.1) hS0 (fun q h => Or.inl h) (fun H1 locs1 q ce y1 y2 y3 y4 y5 y6 y7 y8 => ?_)
    refine vx_catch (own := RL) (name := exN 1) (E := exN 1) X.2.2.2.1 [⟨0, 12, 15, 19⟩] ⟨0, 12, 19, 27⟩ [] htab (fun v hv => by
      simp only [List.mem_cons, List.not_mem_nil, or_false] at hv
      rcases hv with rfl
      · exact Or.inr ⟨by decide, exN 0, htg _ gC_19, hNc 1 0 (by decide) (by decide) (by decide)⟩) rfl (by decide) (htg _ gC_27) ((hcast (exN 1, exN 1) (by decide +kernel)).use rfl) y6 y7 y8 ?_
    refine z_as hx hb hls dL_initials_19 (Nat.le_of_ble_eq_true rfl) (fun ls2 hls2 => ?_)
    refine lv_iconst (v := 2) hx hb dL_initials_21 (by decide) ?_
    rw [hz]
    rw [if_neg (by decide)]
    exact H_end hx hb hret hlk h3 hm (by omega) (by omega) y1 (y2.weak (fun q h => Or.inl h)) y3 (oW_kept hPo (y5 o (by omega) hoA)) y4 dL_initials_22
set_option maxHeartbeats 1000000 in
theorem h_missing {l : Launch} {D : va_G} {g : Nat → Nat} {σ τ : PS} {gL o x : Nat} {ov : Int64} {a1 a2 : Int32} {z : RZ} {r : Rs} (hC : Ctr l D g (zN τ + 1) (zS τ + 6) 77 [.ref x, .int a1, .int a2] σ r τ) (hr : r = rzI [1] z) (hz : z.1 = 0 ∨ z.1 = 1) (hx8 : zK σ x = 8) (hm : zN σ ≤ zN τ ∧ zS σ ≤ zS τ) :
    Met l yL_missing (Cond.codeWith yL_missing method_12_code 5 (some .int) [(0, 10, 13, 27)] :: gW) (rmH 77 σ τ) (va_Pc [.ref x, .int a1, .int a2, .ref o] (HP D g σ gL o ov)) (HQ D g σ τ gL o (if z.1 = 0 then (iI z.2.1).toInt64 else ov) (iI z.1)) (zN τ + 1 - zN σ) (zS τ + 6 - zS σ) (Ao σ o) := by
  refine met_of (XC := fun _ _ _ => False) (vx_ofWH (cc := method_12_code) (maxL := 5) (ret := some .int) (by decide) rfl ?_) (fun _ _ _ h => h)
  intro p e s m args below meth c s₁ B hml hP
  obtain ⟨rfl, h3, h5, h7, hE, hH, hPo, hKo, hNc, hol, hoA⟩ := hP
  have hts := atoms_spec (ws := Cond.codeWith yL_missing method_12_code 5 (some .int) [(0, 10, 13, 27)] :: gW) B.pre
  have htab := vx_table (x := yL_missing) B (hts _ List.mem_cons_self)
  have X : CallFix p m c method_12_code 5 s ([.ref x, .int a1, .int a2, .ref o] : List Value).toArray gW RL := ⟨B.exec, B.bytes, hml, findClass_of_methodNamed B.named, fun w hw => hts w (List.mem_cons_of_mem _ hw)⟩
  have htg := X.2.2.2.2
  have hx := B.exec
  have hb := B.bytes
  have hret := B.returns
  have hlk := B.notSynchronized
  have hA : ∀ q, s.heap.size ≤ q → Ao σ o q := fun q hq => Or.inl (Or.inr (by omega))
  have hS0 : va_S (Ao σ o) s.heap s.heap [] := va_S.rf
  have h5a := h5.weak (B := Ao σ o) (fun q h => Or.inl h)
  have hcast := hE.2.2.2.2.2.2.2.2.2.2.2.2
  rw [lg_entry_eq]
  have hls := lsR_entry ([.ref x, .int a1, .int a2, .ref o]) (n := 5) (Nat.le_of_ble_eq_true rfl)
  generalize (lg_sl ([.ref x, .int a1, .int a2, .ref o]) ++ List.replicate (5 - (lg_sl ([.ref x, .int a1, .int a2, .ref o])).length) Slot.unset).toArray = ls at hls ⊢
  have hls : lsR ls [some (.ref x), some (.int a1), some (.int a2), some (.ref o), none] := hls
  refine z_aln hx hb hls dL_missing_0 rfl ?_
  refine lv_iconst (v := 0) hx hb dL_missing_1 (by decide) ?_
  refine z_aln hx hb hls dL_missing_2 rfl ?_
  refine z_iln hx hb hls dL_missing_3 rfl ?_
  refine z_iln hx hb hls dL_missing_4 rfl ?_
  rcases hz with hz | hz
  · have hr : r = Sum.inl (some (.int (iI z.2.1))) := by rw [hr, rzI, if_pos hz]
    subst hr
    refine L_go (L_run (As := [.int a1, .int a2]) (rest := [.int 0, .ref o]) X hE hH hA (by decide) rfl rfl (by decide) hx8 gK_77 rfl dL_missing_5 (Nat.le_of_ble_eq_true rfl) ⟨Nat.le_refl _, Nat.le_refl _⟩ ⟨Nat.le_of_eq (Nat.zero_add _), Nat.le_of_eq (Nat.zero_add _)⟩ hC ⟨by omega, by omega⟩ h3 h5a hS0 h7 hls.1) hS0 (fun q h => Or.inl h) (fun H1 locs1 y1 y2 y3 y4 y5 y6 => ?_)
    rw [hz]
    rw [if_pos rfl]
    exact H_out (pc := 8) (pE := 17) hx hb hret hlk h3 hm (by omega) (by omega) (by omega) y3 y4 hKo (oW_kept hPo (y6 o (by omega) hoA)) hoA y5 dL_missing_8 dL_missing_9 dL_missing_10 (by decide) dL_missing_17 dL_missing_18
  · have hr : r = Sum.inr 1 := by rw [hr, rzI, if_neg (by rw [hz]; decide), hz]; rfl
    subst hr
    refine L_goT (L_run (As := [.int a1, .int a2]) (rest := [.int 0, .ref o]) X hE hH hA (by decide) rfl rfl (by decide) hx8 gK_77 rfl dL_missing_5 (Nat.le_of_ble_eq_true rfl) ⟨Nat.le_refl _, Nat.le_refl _⟩ ⟨Nat.le_of_eq (Nat.zero_add _), Nat.le_of_eq (Nat.zero_add _)⟩ hC ⟨by omega, by omega⟩ h3 h5a hS0 h7 hls.1) hS0 (fun q h => Or.inl h) (fun H1 locs1 q ce y1 y2 y3 y4 y5 y6 y7 y8 => ?_)
    refine vx_catch (own := RL) (name := exN 1) (E := exN 1) X.2.2.2.1 [] ⟨0, 10, 13, 27⟩ [] htab (fun _ h => nomatch h) rfl (by decide) (htg _ gC_27) ((hcast (exN 1, exN 1) (by decide +kernel)).use rfl) y6 y7 y8 ?_
    refine z_as hx hb hls dL_missing_13 (Nat.le_of_ble_eq_true rfl) (fun ls2 hls2 => ?_)
    refine lv_iconst (v := 1) hx hb dL_missing_15 (by decide) ?_
    rw [hz]
    rw [if_neg (by decide)]
    exact H_end hx hb hret hlk h3 hm (by omega) (by omega) y1 (y2.weak (fun q h => Or.inl h)) y3 (oW_kept hPo (y5 o (by omega) hoA)) y4 dL_missing_16
set_option maxHeartbeats 1000000 in
theorem h_print {l : Launch} {D : va_G} {g : Nat → Nat} {σ τ : PS} {gL o x : Nat} {ov : Int64} {a1 : Int32} {z : RZ} {r : Rs} (hC : Ctr l D g (zN τ + 1) (zS τ + 6) 78 [.ref x, .int a1] σ r τ) (hr : r = rzI [1] z) (hz : z.1 = 0 ∨ z.1 = 1) (hx8 : zK σ x = 8) (hm : zN σ ≤ zN τ ∧ zS σ ≤ zS τ) :
    Met l yL_print (Cond.codeWith yL_print method_13_code 4 (some .int) [(0, 9, 12, 27)] :: gW) (rmH 78 σ τ) (va_Pc [.ref x, .int a1, .ref o] (HP D g σ gL o ov)) (HQ D g σ τ gL o (if z.1 = 0 then (iI z.2.1).toInt64 else ov) (iI z.1)) (zN τ + 1 - zN σ) (zS τ + 6 - zS σ) (Ao σ o) := by
  refine met_of (XC := fun _ _ _ => False) (vx_ofWH (cc := method_13_code) (maxL := 4) (ret := some .int) (by decide) rfl ?_) (fun _ _ _ h => h)
  intro p e s m args below meth c s₁ B hml hP
  obtain ⟨rfl, h3, h5, h7, hE, hH, hPo, hKo, hNc, hol, hoA⟩ := hP
  have hts := atoms_spec (ws := Cond.codeWith yL_print method_13_code 4 (some .int) [(0, 9, 12, 27)] :: gW) B.pre
  have htab := vx_table (x := yL_print) B (hts _ List.mem_cons_self)
  have X : CallFix p m c method_13_code 4 s ([.ref x, .int a1, .ref o] : List Value).toArray gW RL := ⟨B.exec, B.bytes, hml, findClass_of_methodNamed B.named, fun w hw => hts w (List.mem_cons_of_mem _ hw)⟩
  have htg := X.2.2.2.2
  have hx := B.exec
  have hb := B.bytes
  have hret := B.returns
  have hlk := B.notSynchronized
  have hA : ∀ q, s.heap.size ≤ q → Ao σ o q := fun q hq => Or.inl (Or.inr (by omega))
  have hS0 : va_S (Ao σ o) s.heap s.heap [] := va_S.rf
  have h5a := h5.weak (B := Ao σ o) (fun q h => Or.inl h)
  have hcast := hE.2.2.2.2.2.2.2.2.2.2.2.2
  rw [lg_entry_eq]
  have hls := lsR_entry ([.ref x, .int a1, .ref o]) (n := 4) (Nat.le_of_ble_eq_true rfl)
  generalize (lg_sl ([.ref x, .int a1, .ref o]) ++ List.replicate (4 - (lg_sl ([.ref x, .int a1, .ref o])).length) Slot.unset).toArray = ls at hls ⊢
  have hls : lsR ls [some (.ref x), some (.int a1), some (.ref o), none] := hls
  refine z_aln hx hb hls dL_print_0 rfl ?_
  refine lv_iconst (v := 0) hx hb dL_print_1 (by decide) ?_
  refine z_aln hx hb hls dL_print_2 rfl ?_
  refine z_iln hx hb hls dL_print_3 rfl ?_
  rcases hz with hz | hz
  · have hr : r = Sum.inl (some (.int (iI z.2.1))) := by rw [hr, rzI, if_pos hz]
    subst hr
    refine L_go (L_run (As := [.int a1]) (rest := [.int 0, .ref o]) X hE hH hA (by decide) rfl rfl (by decide) hx8 gK_78 rfl dL_print_4 (Nat.le_of_ble_eq_true rfl) ⟨Nat.le_refl _, Nat.le_refl _⟩ ⟨Nat.le_of_eq (Nat.zero_add _), Nat.le_of_eq (Nat.zero_add _)⟩ hC ⟨by omega, by omega⟩ h3 h5a hS0 h7 hls.1) hS0 (fun q h => Or.inl h) (fun H1 locs1 y1 y2 y3 y4 y5 y6 => ?_)
    rw [hz]
    rw [if_pos rfl]
    exact H_out (pc := 7) (pE := 15) hx hb hret hlk h3 hm (by omega) (by omega) (by omega) y3 y4 hKo (oW_kept hPo (y6 o (by omega) hoA)) hoA y5 dL_print_7 dL_print_8 dL_print_9 (by decide) dL_print_15 dL_print_16
  · have hr : r = Sum.inr 1 := by rw [hr, rzI, if_neg (by rw [hz]; decide), hz]; rfl
    subst hr
    refine L_goT (L_run (As := [.int a1]) (rest := [.int 0, .ref o]) X hE hH hA (by decide) rfl rfl (by decide) hx8 gK_78 rfl dL_print_4 (Nat.le_of_ble_eq_true rfl) ⟨Nat.le_refl _, Nat.le_refl _⟩ ⟨Nat.le_of_eq (Nat.zero_add _), Nat.le_of_eq (Nat.zero_add _)⟩ hC ⟨by omega, by omega⟩ h3 h5a hS0 h7 hls.1) hS0 (fun q h => Or.inl h) (fun H1 locs1 q ce y1 y2 y3 y4 y5 y6 y7 y8 => ?_)
    refine vx_catch (own := RL) (name := exN 1) (E := exN 1) X.2.2.2.1 [] ⟨0, 9, 12, 27⟩ [] htab (fun _ h => nomatch h) rfl (by decide) (htg _ gC_27) ((hcast (exN 1, exN 1) (by decide +kernel)).use rfl) y6 y7 y8 ?_
    refine z_asn hx hb hls dL_print_12 (Nat.le_of_ble_eq_true rfl) (fun ls2 hls2 => ?_)
    refine lv_iconst (v := 1) hx hb dL_print_13 (by decide) ?_
    rw [hz]
    rw [if_neg (by decide)]
    exact H_end hx hb hret hlk h3 hm (by omega) (by omega) y1 (y2.weak (fun q h => Or.inl h)) y3 (oW_kept hPo (y5 o (by omega) hoA)) y4 dL_print_14
set_option maxHeartbeats 1000000 in
theorem h_at {l : Launch} {D : va_G} {g : Nat → Nat} {σ τ : PS} {gL o x : Nat} {ov : Int64} {a1 : Int32} {z : RZ} {r : Rs} (hC : Ctr l D g (zN τ + 1) (zS τ + 6) 79 [.ref x, .int a1] σ r τ) (hr : r = rzI [1] z) (hz : z.1 = 0 ∨ z.1 = 1) (hx8 : zK σ x = 8) (hm : zN σ ≤ zN τ ∧ zS σ ≤ zS τ) :
    Met l yL_at (Cond.codeWith yL_at method_14_code 4 (some .int) [(0, 9, 12, 27)] :: gW) (rmH 79 σ τ) (va_Pc [.ref x, .int a1, .ref o] (HP D g σ gL o ov)) (HQ D g σ τ gL o (if z.1 = 0 then (iI z.2.1).toInt64 else ov) (iI z.1)) (zN τ + 1 - zN σ) (zS τ + 6 - zS σ) (Ao σ o) := by
  refine met_of (XC := fun _ _ _ => False) (vx_ofWH (cc := method_14_code) (maxL := 4) (ret := some .int) (by decide) rfl ?_) (fun _ _ _ h => h)
  intro p e s m args below meth c s₁ B hml hP
  obtain ⟨rfl, h3, h5, h7, hE, hH, hPo, hKo, hNc, hol, hoA⟩ := hP
  have hts := atoms_spec (ws := Cond.codeWith yL_at method_14_code 4 (some .int) [(0, 9, 12, 27)] :: gW) B.pre
  have htab := vx_table (x := yL_at) B (hts _ List.mem_cons_self)
  have X : CallFix p m c method_14_code 4 s ([.ref x, .int a1, .ref o] : List Value).toArray gW RL := ⟨B.exec, B.bytes, hml, findClass_of_methodNamed B.named, fun w hw => hts w (List.mem_cons_of_mem _ hw)⟩
  have htg := X.2.2.2.2
  have hx := B.exec
  have hb := B.bytes
  have hret := B.returns
  have hlk := B.notSynchronized
  have hA : ∀ q, s.heap.size ≤ q → Ao σ o q := fun q hq => Or.inl (Or.inr (by omega))
  have hS0 : va_S (Ao σ o) s.heap s.heap [] := va_S.rf
  have h5a := h5.weak (B := Ao σ o) (fun q h => Or.inl h)
  have hcast := hE.2.2.2.2.2.2.2.2.2.2.2.2
  rw [lg_entry_eq]
  have hls := lsR_entry ([.ref x, .int a1, .ref o]) (n := 4) (Nat.le_of_ble_eq_true rfl)
  generalize (lg_sl ([.ref x, .int a1, .ref o]) ++ List.replicate (4 - (lg_sl ([.ref x, .int a1, .ref o])).length) Slot.unset).toArray = ls at hls ⊢
  have hls : lsR ls [some (.ref x), some (.int a1), some (.ref o), none] := hls
  refine z_aln hx hb hls dL_at_0 rfl ?_
  refine lv_iconst (v := 0) hx hb dL_at_1 (by decide) ?_
  refine z_aln hx hb hls dL_at_2 rfl ?_
  refine z_iln hx hb hls dL_at_3 rfl ?_
  rcases hz with hz | hz
  · have hr : r = Sum.inl (some (.int (iI z.2.1))) := by rw [hr, rzI, if_pos hz]
    subst hr
    refine L_go (L_run (As := [.int a1]) (rest := [.int 0, .ref o]) X hE hH hA (by decide) rfl rfl (by decide) hx8 gK_79 rfl dL_at_4 (Nat.le_of_ble_eq_true rfl) ⟨Nat.le_refl _, Nat.le_refl _⟩ ⟨Nat.le_of_eq (Nat.zero_add _), Nat.le_of_eq (Nat.zero_add _)⟩ hC ⟨by omega, by omega⟩ h3 h5a hS0 h7 hls.1) hS0 (fun q h => Or.inl h) (fun H1 locs1 y1 y2 y3 y4 y5 y6 => ?_)
    rw [hz]
    rw [if_pos rfl]
    exact H_out (pc := 7) (pE := 15) hx hb hret hlk h3 hm (by omega) (by omega) (by omega) y3 y4 hKo (oW_kept hPo (y6 o (by omega) hoA)) hoA y5 dL_at_7 dL_at_8 dL_at_9 (by decide) dL_at_15 dL_at_16
  · have hr : r = Sum.inr 1 := by rw [hr, rzI, if_neg (by rw [hz]; decide), hz]; rfl
    subst hr
    refine L_goT (L_run (As := [.int a1]) (rest := [.int 0, .ref o]) X hE hH hA (by decide) rfl rfl (by decide) hx8 gK_79 rfl dL_at_4 (Nat.le_of_ble_eq_true rfl) ⟨Nat.le_refl _, Nat.le_refl _⟩ ⟨Nat.le_of_eq (Nat.zero_add _), Nat.le_of_eq (Nat.zero_add _)⟩ hC ⟨by omega, by omega⟩ h3 h5a hS0 h7 hls.1) hS0 (fun q h => Or.inl h) (fun H1 locs1 q ce y1 y2 y3 y4 y5 y6 y7 y8 => ?_)
    refine vx_catch (own := RL) (name := exN 1) (E := exN 1) X.2.2.2.1 [] ⟨0, 9, 12, 27⟩ [] htab (fun _ h => nomatch h) rfl (by decide) (htg _ gC_27) ((hcast (exN 1, exN 1) (by decide +kernel)).use rfl) y6 y7 y8 ?_
    refine z_asn hx hb hls dL_at_12 (Nat.le_of_ble_eq_true rfl) (fun ls2 hls2 => ?_)
    refine lv_iconst (v := 1) hx hb dL_at_13 (by decide) ?_
    rw [hz]
    rw [if_neg (by decide)]
    exact H_end hx hb hret hlk h3 hm (by omega) (by omega) y1 (y2.weak (fun q h => Or.inl h)) y3 (oW_kept hPo (y5 o (by omega) hoA)) y4 dL_at_14
set_option maxHeartbeats 1000000 in
theorem h_twice {l : Launch} {D : va_G} {g : Nat → Nat} {σ τ : PS} {gL o x : Nat} {ov : Int64} {a1 : Int32} {z : RZ} {r : Rs} (hC : Ctr l D g (zN τ + 1) (zS τ + 6) 80 [.ref x, .int a1] σ r τ) (hr : r = rzI [1] z) (hz : z.1 = 0 ∨ z.1 = 1) (hx8 : zK σ x = 8) (hm : zN σ ≤ zN τ ∧ zS σ ≤ zS τ) :
    Met l yL_twice (Cond.codeWith yL_twice method_15_code 4 (some .int) [(0, 9, 12, 27)] :: gW) (rmH 80 σ τ) (va_Pc [.ref x, .int a1, .ref o] (HP D g σ gL o ov)) (HQ D g σ τ gL o (if z.1 = 0 then (iI z.2.1).toInt64 else ov) (iI z.1)) (zN τ + 1 - zN σ) (zS τ + 6 - zS σ) (Ao σ o) := by
  refine met_of (XC := fun _ _ _ => False) (vx_ofWH (cc := method_15_code) (maxL := 4) (ret := some .int) (by decide) rfl ?_) (fun _ _ _ h => h)
  intro p e s m args below meth c s₁ B hml hP
  obtain ⟨rfl, h3, h5, h7, hE, hH, hPo, hKo, hNc, hol, hoA⟩ := hP
  have hts := atoms_spec (ws := Cond.codeWith yL_twice method_15_code 4 (some .int) [(0, 9, 12, 27)] :: gW) B.pre
  have htab := vx_table (x := yL_twice) B (hts _ List.mem_cons_self)
  have X : CallFix p m c method_15_code 4 s ([.ref x, .int a1, .ref o] : List Value).toArray gW RL := ⟨B.exec, B.bytes, hml, findClass_of_methodNamed B.named, fun w hw => hts w (List.mem_cons_of_mem _ hw)⟩
  have htg := X.2.2.2.2
  have hx := B.exec
  have hb := B.bytes
  have hret := B.returns
  have hlk := B.notSynchronized
  have hA : ∀ q, s.heap.size ≤ q → Ao σ o q := fun q hq => Or.inl (Or.inr (by omega))
  have hS0 : va_S (Ao σ o) s.heap s.heap [] := va_S.rf
  have h5a := h5.weak (B := Ao σ o) (fun q h => Or.inl h)
  have hcast := hE.2.2.2.2.2.2.2.2.2.2.2.2
  rw [lg_entry_eq]
  have hls := lsR_entry ([.ref x, .int a1, .ref o]) (n := 4) (Nat.le_of_ble_eq_true rfl)
  generalize (lg_sl ([.ref x, .int a1, .ref o]) ++ List.replicate (4 - (lg_sl ([.ref x, .int a1, .ref o])).length) Slot.unset).toArray = ls at hls ⊢
  have hls : lsR ls [some (.ref x), some (.int a1), some (.ref o), none] := hls
  refine z_aln hx hb hls dL_twice_0 rfl ?_
  refine lv_iconst (v := 0) hx hb dL_twice_1 (by decide) ?_
  refine z_aln hx hb hls dL_twice_2 rfl ?_
  refine z_iln hx hb hls dL_twice_3 rfl ?_
  rcases hz with hz | hz
  · have hr : r = Sum.inl (some (.int (iI z.2.1))) := by rw [hr, rzI, if_pos hz]
    subst hr
    refine L_go (L_run (As := [.int a1]) (rest := [.int 0, .ref o]) X hE hH hA (by decide) rfl rfl (by decide) hx8 gK_80 rfl dL_twice_4 (Nat.le_of_ble_eq_true rfl) ⟨Nat.le_refl _, Nat.le_refl _⟩ ⟨Nat.le_of_eq (Nat.zero_add _), Nat.le_of_eq (Nat.zero_add _)⟩ hC ⟨by omega, by omega⟩ h3 h5a hS0 h7 hls.1) hS0 (fun q h => Or.inl h) (fun H1 locs1 y1 y2 y3 y4 y5 y6 => ?_)
    rw [hz]
    rw [if_pos rfl]
    exact H_out (pc := 7) (pE := 15) hx hb hret hlk h3 hm (by omega) (by omega) (by omega) y3 y4 hKo (oW_kept hPo (y6 o (by omega) hoA)) hoA y5 dL_twice_7 dL_twice_8 dL_twice_9 (by decide) dL_twice_15 dL_twice_16
  · have hr : r = Sum.inr 1 := by rw [hr, rzI, if_neg (by rw [hz]; decide), hz]; rfl
    subst hr
    refine L_goT (L_run (As := [.int a1]) (rest := [.int 0, .ref o]) X hE hH hA (by decide) rfl rfl (by decide) hx8 gK_80 rfl dL_twice_4 (Nat.le_of_ble_eq_true rfl) ⟨Nat.le_refl _, Nat.le_refl _⟩ ⟨Nat.le_of_eq (Nat.zero_add _), Nat.le_of_eq (Nat.zero_add _)⟩ hC ⟨by omega, by omega⟩ h3 h5a hS0 h7 hls.1) hS0 (fun q h => Or.inl h) (fun H1 locs1 q ce y1 y2 y3 y4 y5 y6 y7 y8 => ?_)
    refine vx_catch (own := RL) (name := exN 1) (E := exN 1) X.2.2.2.1 [] ⟨0, 9, 12, 27⟩ [] htab (fun _ h => nomatch h) rfl (by decide) (htg _ gC_27) ((hcast (exN 1, exN 1) (by decide +kernel)).use rfl) y6 y7 y8 ?_
    refine z_asn hx hb hls dL_twice_12 (Nat.le_of_ble_eq_true rfl) (fun ls2 hls2 => ?_)
    refine lv_iconst (v := 1) hx hb dL_twice_13 (by decide) ?_
    rw [hz]
    rw [if_neg (by decide)]
    exact H_end hx hb hret hlk h3 hm (by omega) (by omega) y1 (y2.weak (fun q h => Or.inl h)) y3 (oW_kept hPo (y5 o (by omega) hoA)) y4 dL_twice_14
