section Dsq
variable {p : Program} {l : Launch} {e : Env} {s : State} {m : MethodId} {args : Array Value} {below : List Frame} {meth : Method} {c : Code}
variable {D : va_G} {g : Nat → Nat} {C S k : Nat} {σ0 : PS}
abbrev Qr (D : va_G) (g : Nat → Nat) (C S : Nat) (σ0 : PS) (below : List Frame) (args : Array Value) (s : State) (r : Rs) (τ : PS) : State → Prop := vx_MQ below (QcK D g C S σ0 r τ) (XcK D g σ0 r τ) args s (C - zN σ0) (S - zS σ0) (Ar σ0)
theorem xs_cal (X : Cx p l s m args meth c D g C S k σ0) {rec : Nat → Nat → LV → List Value → PS → Option (Rs × PS)} {r : Rs} {τ : PS} (hrec : ∀ pc lf st σ, rec k pc lf st σ = some (r, τ) → VV p l e s m args below meth c D g C S k σ0 (Qr D g C S σ0 below args s r τ) pc lf st σ)
    (hcal : ∀ k2 as σ r τ, k2 < 172 → (ent as).length ≤ mL k2 → rec k2 0 (entL as (mL k2)) [] σ = some (r, τ) → Ctr l D g C S k2 as σ r τ)
    {pc i op : Nat} {ins : Instr} {lf : LV} {st : List Value} {σ : PS} (hop : (op = 0 ∧ ins = .invokevirtual i) ∨ (op = 1 ∧ ins = .invokespecial i) ∨ (op = 2 ∧ ins = .invokestatic i)) (hd : decode (mB k) pc = .ok (ins, 3)) (h : calX g rec k pc 3 lf st σ i op = some (r, τ)) :
    VV p l e s m args below meth c D g C S k σ0 (Qr D g C S σ0 below args s r τ) pc lf st σ := by
  unfold calX at h
  split at h
  · cases h
  · next k2 hc =>
    split at h
    · unfold calS at h
      split at h
      · split at h
        · next z =>
          rcases hop with ⟨q, -⟩ | ⟨-, rfl⟩ | ⟨q, -⟩
          · cases q
          · exact v_oinit X hd hc z.1 z.2.1 z.2.2 (hrec _ _ _ _ h)
          · cases q
        · cases h
      · split at h
        · next z =>
          rcases hop with ⟨q, -⟩ | ⟨q, -⟩ | ⟨-, rfl⟩
          · cases q
          · cases q
          · obtain ⟨z1, z2, z3, z4, z5, z6⟩ := z
            unfold calA at h
            split at h
            · next y =>
              split at h
              · next w => exact v_copI X hd hc z1 z2 z3 z4 z5 z6 y.1 y.2.1 w.1 w.2.1 w.2.2 (hrec _ _ _ _ h)
              · split at h
                · next w => exact v_copP X hd hc z1 z2 z3 z4 z5 z6 y.1 y.2.1 w.1 w.2.1 w.2.2 (hrec _ _ _ _ h)
                · cases h
            · cases h
        · cases h
      · split at h
        · next z =>
          rcases hop with ⟨q, -⟩ | ⟨q, -⟩ | ⟨-, rfl⟩
          · cases q
          · cases q
          · exact v_max X hd hc z.1 z.2.1 z.2.2 (hrec _ _ _ _ h)
        · cases h
      · split at h
        · next z =>
          rcases hop with ⟨q, -⟩ | ⟨q, -⟩ | ⟨-, rfl⟩
          · cases q
          · cases q
          · exact v_min X hd hc z.1 z.2.1 z.2.2 (hrec _ _ _ _ h)
        · cases h
      · split at h
        · next z =>
          rcases hop with ⟨-, rfl⟩ | ⟨q, -⟩ | ⟨q, -⟩
          · exact v_getC X hd hc z.1 z.2.1 z.2.2.1 z.2.2.2 (hrec _ _ _ _ h)
          · cases q
          · cases q
        · cases h
      · cases h
    · next hk2 =>
      have hlk : k2 < 172 := by
        rcases cR_ok _ _ _ hc with q | q
        · exact q.1
        · exact absurd q.1 hk2
      unfold calM at h
      split at h
      · next z =>
        obtain ⟨hrm, hA, hrest, hent, hrcv⟩ := z
        split at h
        · next v τ' hr => exact v_call X hop hd hc hk2 hrm hA hrest hrcv (hcal k2 _ σ _ _ hlk hent hr) (hrec _ _ _ _ h)
        · next j τ' hr =>
          split at h
          · next z =>
            cases h
            exact v_callT X hop hd hc z hrm hA hrest hrcv (hcal k2 _ σ _ _ hlk hent hr)
          · cases h
        · cases h
      · cases h
theorem ex_snd (X : Cx p l s m args meth c D g C S k σ0) {rec : Nat → Nat → LV → List Value → PS → Option (Rs × PS)} {r : Rs} {τ : PS} (hrec : ∀ pc lf st σ, rec k pc lf st σ = some (r, τ) → VV p l e s m args below meth c D g C S k σ0 (Qr D g C S σ0 below args s r τ) pc lf st σ)
    (hcal : ∀ k2 as σ r τ, k2 < 172 → (ent as).length ≤ mL k2 → rec k2 0 (entL as (mL k2)) [] σ = some (r, τ) → Ctr l D g C S k2 as σ r τ)
    {pc : Nat} {i : Instr} {lf : LV} {st : List Value} {σ : PS} (hd : decode (mB k) pc = .ok (i, ilen i)) (h : ex g C S rec k pc (ilen i) lf st σ i = some (r, τ)) :
    VV p l e s m args below meth c D g C S k σ0 (Qr D g C S σ0 below args s r τ) pc lf st σ := by
  cases i with
  | iconst n => exact xs_iconst X hrec hd h
  | bipush n => exact xs_bipush X hrec hd h
  | sipush n => exact xs_sipush X hrec hd h
  | lconst n => exact xs_lconst X hrec hd h
  | aconst_null => exact xs_aconst_null X hrec hd h
  | iload i => exact xs_iload X hrec hd h
  | iload_n i => exact xs_iload_n X hrec hd h
  | lload_n i => exact xs_lload_n X hrec hd h
  | aload i => exact xs_aload X hrec hd h
  | aload_n i => exact xs_aload_n X hrec hd h
  | istore i => exact xs_istore X hrec hd h
  | istore_n i => exact xs_istore_n X hrec hd h
  | lstore_n i => exact xs_lstore_n X hrec hd h
  | astore i => exact xs_astore X hrec hd h
  | astore_n i => exact xs_astore_n X hrec hd h
  | iinc i n => exact xs_iinc X hrec hd h
  | iadd => exact xs_iadd X hrec hd h
  | isub => exact xs_isub X hrec hd h
  | imul => exact xs_imul X hrec hd h
  | iand => exact xs_iand X hrec hd h
  | idiv => exact xs_idiv X hrec hd h
  | irem => exact xs_irem X hrec hd h
  | ishr => exact xs_ishr X hrec hd h
  | iushr => exact xs_iushr X hrec hd h
  | ldiv => exact xs_ldiv X hrec hd h
  | lrem => exact xs_lrem X hrec hd h
  | lcmp => exact xs_lcmp X hrec hd h
  | l2i => exact xs_l2i X hrec hd h
  | i2c => exact xs_i2c X hrec hd h
  | dup => exact xs_dup X hrec hd h
  | dup_x1 => exact xs_dup_x1 X hrec hd h
  | dup2 => exact xs_dup2 X hrec hd h
  | pop => exact xs_pop X hrec hd h
  | goto off => exact xs_goto X hrec hd h
  | ifCond cd off => exact xs_ifCond X hrec hd h
  | if_icmp cd off => exact xs_if_icmp X hrec hd h
  | ifnull off => exact xs_ifnull X hrec hd h
  | if_acmp cd off => exact xs_if_acmp X hrec hd h
  | getfield i => exact xs_getfield X hrec hd h
  | putfield i => exact xs_putfield X hrec hd h
  | getstatic i => exact xs_getstatic X hrec hd h
  | iaload => exact xs_iaload X hrec hd h
  | caload => exact xs_caload X hrec hd h
  | baload => exact xs_baload X hrec hd h
  | aaload => exact xs_aaload X hrec hd h
  | iastore => exact xs_iastore X hrec hd h
  | castore => exact xs_castore X hrec hd h
  | aastore => exact xs_aastore X hrec hd h
  | arraylength => exact xs_arraylength X hrec hd h
  | new i => exact xs_new X hrec hd h
  | newarray t => exact xs_newarray X hrec hd h
  | anewarray i => exact xs_anewarray X hrec hd h
  | checkcast i => exact xs_checkcast X hrec hd h
  | ldc i => exact xs_ldc X hrec hd h
  | ldc2_w i => exact xs_ldc2_w X hrec hd h
  | invokevirtual i => exact xs_cal X hrec hcal (op := 0) (Or.inl ⟨rfl, rfl⟩) hd h
  | invokespecial i => exact xs_cal X hrec hcal (op := 1) (Or.inr (Or.inl ⟨rfl, rfl⟩)) hd h
  | invokestatic i => exact xs_cal X hrec hcal (op := 2) (Or.inr (Or.inr ⟨rfl, rfl⟩)) hd h
  | ireturn =>
    unfold ex at h
    dsimp only at h
    split at h
    · split at h
      · next hn =>
        cases h
        exact v_ret X hd hn
      · cases h
    · cases h
  | areturn =>
    unfold ex at h
    dsimp only at h
    split at h
    · split at h
      · next q hq =>
        split at h
        · next hn =>
          cases rOf_eq hq
          cases h
          exact v_aret X hd hn
        · cases h
      · cases h
    · cases h
  | return_ =>
    unfold ex at h
    dsimp only at h
    split at h
    · split at h
      · next hn =>
        cases h
        exact v_vret X hd hn
      · cases h
    · cases h
  | _ => cases h
theorem stp_snd (X : Cx p l s m args meth c D g C S k σ0) {rec : Nat → Nat → LV → List Value → PS → Option (Rs × PS)} {r : Rs} {τ : PS} (hrec : ∀ pc lf st σ, rec k pc lf st σ = some (r, τ) → VV p l e s m args below meth c D g C S k σ0 (Qr D g C S σ0 below args s r τ) pc lf st σ)
    (hcal : ∀ k2 as σ r τ, k2 < 172 → (ent as).length ≤ mL k2 → rec k2 0 (entL as (mL k2)) [] σ = some (r, τ) → Ctr l D g C S k2 as σ r τ)
    {pc : Nat} {lf : LV} {st : List Value} {σ : PS} (h : stp g C S rec k pc lf st σ = some (r, τ)) :
    VV p l e s m args below meth c D g C S k σ0 (Qr D g C S σ0 below args s r τ) pc lf st σ := by
  unfold stp at h
  split at h
  · next j ht =>
    split at h
    · next z =>
      cases h
      exact v_site X ht z.1 z.2.1 z.2.2.1 z.2.2.2.1 z.2.2.2.2
    · cases h
  · split at h
    · next i len hd =>
      split at h
      · next hlen =>
        subst hlen
        exact ex_snd X hrec hcal hd h
      · cases h
    · cases h
end Dsq
/-- THE PURE MACHINE'S RUNS ARE THE MACHINE'S -/
theorem sound {l : Launch} (hl : l.stackTraces = false) (D : va_G) (g : Nat → Nat) (C S : Nat) : ∀ (n k : Nat) (as : List Value) (σ : PS) (r : Rs) (τ : PS), k < 172 → (ent as).length ≤ mL k → run g C S n k 0 (entL as (mL k)) [] σ = some (r, τ) → Ctr l D g C S k as σ r τ := by
  intro n
  induction n using Nat.strongRecOn with
  | ind n ih =>
    intro k as σ r τ hk hent h
    obtain ⟨hcls, hpl, -, -, hin, -, -⟩ := mY_ok k hk
    refine vx_ofW (cc := mB k) (maxL := mL k) (ret := mR k) hpl rfl ?_
    intro p e s m args below meth c s₁ B hml htab hP
    obtain ⟨rfl, hCS, hsz, hPl, hcO, hE, hH⟩ := hP
    have hts := atoms_spec (ws := wsK k) B.pre
    have hown : s.vm.findClass (mY k).cls = some m.cls := findClass_of_methodNamed B.named
    have X : Cx p l s m as.toArray meth c D g C S k σ := ⟨⟨B.exec, B.bytes, hml, by rw [← hcls]; exact hown, fun w hw => hts w (List.mem_cons_of_mem _ hw)⟩, ⟨B.notSynchronized, B.returns, fun hi => (name_of_methodNamed B.named B.method).1.trans (by rw [hi] at hin; exact of_decide_eq_true hin.symm), htab⟩, ⟨hE, hH, hsz, trivial⟩, hl, hk, hCS⟩
    have hbody : ∀ j, j ≤ n → ∀ pc lf st σ', run g C S j k pc lf st σ' = some (r, τ) → VV p l e s m as.toArray below meth c D g C S k σ (Qr D g C S σ below as.toArray s r τ) pc lf st σ' := by
      intro j
      induction j with
      | zero => intro _ pc lf st σ' h; cases h
      | succ j ihj =>
        intro hj pc lf st σ' h
        exact stp_snd X (ihj (by omega)) (fun k2 as σ r τ h1 h2 h3 => ih j (by omega) k2 as σ r τ h1 h2 h3) h
    have hlen : (entL as (mL k)).length = mL k := by unfold entL; simp; omega
    have kk := hbody n (Nat.le_refl n) 0 _ [] σ h s.heap [] _ (lsR_entry as hent) hlen hsz ⟨Nat.le_refl _, hCS⟩ hPl va_S.rf hcO
    rw [Nat.sub_self, Nat.sub_self] at kk
    rw [lg_entry_eq]
    exact kk
