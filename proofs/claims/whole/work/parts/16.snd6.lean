section Dsp
variable {p : Program} {l : Launch} {e : Env} {s : State} {m : MethodId} {args : Array Value} {below : List Frame} {meth : Method} {c : Code}
variable {D : va_G} {g : Nat → Nat} {C S k : Nat} {σ0 : PS}
theorem xs_iconst (X : Cx p l s m args meth c D g C S k σ0) {rec : Nat → Nat → LV → List Value → PS → Option (Rs × PS)} {Q : State → Prop} {r : Rs} {τ : PS} (hrec : ∀ pc lf st σ, rec k pc lf st σ = some (r, τ) → VV p l e s m args below meth c D g C S k σ0 Q pc lf st σ)
    {n : Int} {pc : Nat} {lf : LV} {st : List Value} {σ : PS} (hd : decode (mB k) pc = .ok (.iconst n, ilen (.iconst n))) (h : ex g C S rec k pc (ilen (.iconst n)) lf st σ (.iconst n) = some (r, τ)) : VV p l e s m args below meth c D g C S k σ0 Q pc lf st σ := by
  unfold ex at h
  dsimp only [ilen] at h
  exact (hrec _ _ _ _ h).stp (fun H locs ls cl sl hl kk => lv_iconst X.1.1 X.1.2.1 hd rfl kk)
theorem xs_bipush (X : Cx p l s m args meth c D g C S k σ0) {rec : Nat → Nat → LV → List Value → PS → Option (Rs × PS)} {Q : State → Prop} {r : Rs} {τ : PS} (hrec : ∀ pc lf st σ, rec k pc lf st σ = some (r, τ) → VV p l e s m args below meth c D g C S k σ0 Q pc lf st σ)
    {n : Int} {pc : Nat} {lf : LV} {st : List Value} {σ : PS} (hd : decode (mB k) pc = .ok (.bipush n, ilen (.bipush n))) (h : ex g C S rec k pc (ilen (.bipush n)) lf st σ (.bipush n) = some (r, τ)) : VV p l e s m args below meth c D g C S k σ0 Q pc lf st σ := by
  unfold ex at h
  dsimp only [ilen] at h
  exact (hrec _ _ _ _ h).stp (fun H locs ls cl sl hl kk => lv_bipush X.1.1 X.1.2.1 hd rfl kk)
theorem xs_sipush (X : Cx p l s m args meth c D g C S k σ0) {rec : Nat → Nat → LV → List Value → PS → Option (Rs × PS)} {Q : State → Prop} {r : Rs} {τ : PS} (hrec : ∀ pc lf st σ, rec k pc lf st σ = some (r, τ) → VV p l e s m args below meth c D g C S k σ0 Q pc lf st σ)
    {n : Int} {pc : Nat} {lf : LV} {st : List Value} {σ : PS} (hd : decode (mB k) pc = .ok (.sipush n, ilen (.sipush n))) (h : ex g C S rec k pc (ilen (.sipush n)) lf st σ (.sipush n) = some (r, τ)) : VV p l e s m args below meth c D g C S k σ0 Q pc lf st σ := by
  unfold ex at h
  dsimp only [ilen] at h
  exact (hrec _ _ _ _ h).stp (fun H locs ls cl sl hl kk => lv_sipush X.1.1 X.1.2.1 hd rfl kk)
theorem xs_lconst (X : Cx p l s m args meth c D g C S k σ0) {rec : Nat → Nat → LV → List Value → PS → Option (Rs × PS)} {Q : State → Prop} {r : Rs} {τ : PS} (hrec : ∀ pc lf st σ, rec k pc lf st σ = some (r, τ) → VV p l e s m args below meth c D g C S k σ0 Q pc lf st σ)
    {n : Fin 2} {pc : Nat} {lf : LV} {st : List Value} {σ : PS} (hd : decode (mB k) pc = .ok (.lconst n, ilen (.lconst n))) (h : ex g C S rec k pc (ilen (.lconst n)) lf st σ (.lconst n) = some (r, τ)) : VV p l e s m args below meth c D g C S k σ0 Q pc lf st σ := by
  unfold ex at h
  dsimp only [ilen] at h
  exact (hrec _ _ _ _ h).stp (fun H locs ls cl sl hl kk => lv_lconst X.1.1 X.1.2.1 hd rfl kk)
theorem xs_aconst_null (X : Cx p l s m args meth c D g C S k σ0) {rec : Nat → Nat → LV → List Value → PS → Option (Rs × PS)} {Q : State → Prop} {r : Rs} {τ : PS} (hrec : ∀ pc lf st σ, rec k pc lf st σ = some (r, τ) → VV p l e s m args below meth c D g C S k σ0 Q pc lf st σ)
    {pc : Nat} {lf : LV} {st : List Value} {σ : PS} (hd : decode (mB k) pc = .ok (.aconst_null, ilen (.aconst_null))) (h : ex g C S rec k pc (ilen (.aconst_null)) lf st σ (.aconst_null) = some (r, τ)) : VV p l e s m args below meth c D g C S k σ0 Q pc lf st σ := by
  unfold ex at h
  dsimp only [ilen] at h
  exact (hrec _ _ _ _ h).stp (fun H locs ls cl sl hl kk => lv_null X.1.1 X.1.2.1 hd kk)
theorem xs_iload (X : Cx p l s m args meth c D g C S k σ0) {rec : Nat → Nat → LV → List Value → PS → Option (Rs × PS)} {Q : State → Prop} {r : Rs} {τ : PS} (hrec : ∀ pc lf st σ, rec k pc lf st σ = some (r, τ) → VV p l e s m args below meth c D g C S k σ0 Q pc lf st σ)
    {i : Nat} {pc : Nat} {lf : LV} {st : List Value} {σ : PS} (hd : decode (mB k) pc = .ok (.iload i, ilen (.iload i))) (h : ex g C S rec k pc (ilen (.iload i)) lf st σ (.iload i) = some (r, τ)) : VV p l e s m args below meth c D g C S k σ0 Q pc lf st σ := by
  unfold ex at h
  dsimp only [ilen] at h
  split at h
  · next x hv => exact (hrec _ _ _ _ h).stp (fun H locs ls cl sl hl kk => lv_iload X.1.1 X.1.2.1 hd (hl.2.2 _ _ hv) kk)
  · cases h
theorem xs_iload_n (X : Cx p l s m args meth c D g C S k σ0) {rec : Nat → Nat → LV → List Value → PS → Option (Rs × PS)} {Q : State → Prop} {r : Rs} {τ : PS} (hrec : ∀ pc lf st σ, rec k pc lf st σ = some (r, τ) → VV p l e s m args below meth c D g C S k σ0 Q pc lf st σ)
    {n : Fin 4} {pc : Nat} {lf : LV} {st : List Value} {σ : PS} (hd : decode (mB k) pc = .ok (.iload_n n, ilen (.iload_n n))) (h : ex g C S rec k pc (ilen (.iload_n n)) lf st σ (.iload_n n) = some (r, τ)) : VV p l e s m args below meth c D g C S k σ0 Q pc lf st σ := by
  unfold ex at h
  dsimp only [ilen] at h
  split at h
  · next x hv => exact (hrec _ _ _ _ h).stp (fun H locs ls cl sl hl kk => lv_iload_n X.1.1 X.1.2.1 hd rfl (hl.2.2 _ _ hv) kk)
  · cases h
theorem xs_lload_n (X : Cx p l s m args meth c D g C S k σ0) {rec : Nat → Nat → LV → List Value → PS → Option (Rs × PS)} {Q : State → Prop} {r : Rs} {τ : PS} (hrec : ∀ pc lf st σ, rec k pc lf st σ = some (r, τ) → VV p l e s m args below meth c D g C S k σ0 Q pc lf st σ)
    {n : Fin 4} {pc : Nat} {lf : LV} {st : List Value} {σ : PS} (hd : decode (mB k) pc = .ok (.lload_n n, ilen (.lload_n n))) (h : ex g C S rec k pc (ilen (.lload_n n)) lf st σ (.lload_n n) = some (r, τ)) : VV p l e s m args below meth c D g C S k σ0 Q pc lf st σ := by
  unfold ex at h
  dsimp only [ilen] at h
  split at h
  · next x hv => exact (hrec _ _ _ _ h).stp (fun H locs ls cl sl hl kk => lv_lload_n X.1.1 X.1.2.1 hd rfl (hl.2.2 _ _ hv) kk)
  · cases h
theorem xs_aload (X : Cx p l s m args meth c D g C S k σ0) {rec : Nat → Nat → LV → List Value → PS → Option (Rs × PS)} {Q : State → Prop} {r : Rs} {τ : PS} (hrec : ∀ pc lf st σ, rec k pc lf st σ = some (r, τ) → VV p l e s m args below meth c D g C S k σ0 Q pc lf st σ)
    {i : Nat} {pc : Nat} {lf : LV} {st : List Value} {σ : PS} (hd : decode (mB k) pc = .ok (.aload i, ilen (.aload i))) (h : ex g C S rec k pc (ilen (.aload i)) lf st σ (.aload i) = some (r, τ)) : VV p l e s m args below meth c D g C S k σ0 Q pc lf st σ := by
  unfold ex at h
  dsimp only [ilen] at h
  split at h
  · next v hv =>
    split at h
    · next q hq =>
      cases rOf_eq hq
      exact (hrec _ _ _ _ h).stp (fun H locs ls cl sl hl kk => w_aload X.1.1 X.1.2.1 hd (hl.2.2 _ _ hv) kk)
    · cases h
  · cases h
theorem xs_aload_n (X : Cx p l s m args meth c D g C S k σ0) {rec : Nat → Nat → LV → List Value → PS → Option (Rs × PS)} {Q : State → Prop} {r : Rs} {τ : PS} (hrec : ∀ pc lf st σ, rec k pc lf st σ = some (r, τ) → VV p l e s m args below meth c D g C S k σ0 Q pc lf st σ)
    {n : Fin 4} {pc : Nat} {lf : LV} {st : List Value} {σ : PS} (hd : decode (mB k) pc = .ok (.aload_n n, ilen (.aload_n n))) (h : ex g C S rec k pc (ilen (.aload_n n)) lf st σ (.aload_n n) = some (r, τ)) : VV p l e s m args below meth c D g C S k σ0 Q pc lf st σ := by
  unfold ex at h
  dsimp only [ilen] at h
  split at h
  · next v hv =>
    split at h
    · next q hq =>
      cases rOf_eq hq
      exact (hrec _ _ _ _ h).stp (fun H locs ls cl sl hl kk => w_aload_n X.1.1 X.1.2.1 hd (hl.2.2 _ _ hv) kk)
    · cases h
  · cases h
theorem xs_istore (X : Cx p l s m args meth c D g C S k σ0) {rec : Nat → Nat → LV → List Value → PS → Option (Rs × PS)} {Q : State → Prop} {r : Rs} {τ : PS} (hrec : ∀ pc lf st σ, rec k pc lf st σ = some (r, τ) → VV p l e s m args below meth c D g C S k σ0 Q pc lf st σ)
    {i : Nat} {pc : Nat} {lf : LV} {st : List Value} {σ : PS} (hd : decode (mB k) pc = .ok (.istore i, ilen (.istore i))) (h : ex g C S rec k pc (ilen (.istore i)) lf st σ (.istore i) = some (r, τ)) : VV p l e s m args below meth c D g C S k σ0 Q pc lf st σ := by
  unfold ex at h
  dsimp only [ilen] at h
  split at h
  · split at h
    · next hi => exact VV.stl hi (hrec _ _ _ _ h) (fun H locs ls cl sl hl kk => lv_istore X.1.1 X.1.2.1 hd hl hi rfl kk)
    · cases h
  · cases h
theorem xs_istore_n (X : Cx p l s m args meth c D g C S k σ0) {rec : Nat → Nat → LV → List Value → PS → Option (Rs × PS)} {Q : State → Prop} {r : Rs} {τ : PS} (hrec : ∀ pc lf st σ, rec k pc lf st σ = some (r, τ) → VV p l e s m args below meth c D g C S k σ0 Q pc lf st σ)
    {n : Fin 4} {pc : Nat} {lf : LV} {st : List Value} {σ : PS} (hd : decode (mB k) pc = .ok (.istore_n n, ilen (.istore_n n))) (h : ex g C S rec k pc (ilen (.istore_n n)) lf st σ (.istore_n n) = some (r, τ)) : VV p l e s m args below meth c D g C S k σ0 Q pc lf st σ := by
  unfold ex at h
  dsimp only [ilen] at h
  split at h
  · split at h
    · next hi => exact VV.stl hi (hrec _ _ _ _ h) (fun H locs ls cl sl hl kk => lv_istore_n X.1.1 X.1.2.1 hd rfl hl hi rfl kk)
    · cases h
  · cases h
theorem xs_lstore_n (X : Cx p l s m args meth c D g C S k σ0) {rec : Nat → Nat → LV → List Value → PS → Option (Rs × PS)} {Q : State → Prop} {r : Rs} {τ : PS} (hrec : ∀ pc lf st σ, rec k pc lf st σ = some (r, τ) → VV p l e s m args below meth c D g C S k σ0 Q pc lf st σ)
    {n : Fin 4} {pc : Nat} {lf : LV} {st : List Value} {σ : PS} (hd : decode (mB k) pc = .ok (.lstore_n n, ilen (.lstore_n n))) (h : ex g C S rec k pc (ilen (.lstore_n n)) lf st σ (.lstore_n n) = some (r, τ)) : VV p l e s m args below meth c D g C S k σ0 Q pc lf st σ := by
  unfold ex at h
  dsimp only [ilen] at h
  split at h
  · split at h
    · next hi => exact VV.stl2 hi (hrec _ _ _ _ h) (fun H locs ls cl sl hl kk => lv_lstore_n X.1.1 X.1.2.1 hd rfl hl hi rfl kk)
    · cases h
  · cases h
theorem xs_astore (X : Cx p l s m args meth c D g C S k σ0) {rec : Nat → Nat → LV → List Value → PS → Option (Rs × PS)} {Q : State → Prop} {r : Rs} {τ : PS} (hrec : ∀ pc lf st σ, rec k pc lf st σ = some (r, τ) → VV p l e s m args below meth c D g C S k σ0 Q pc lf st σ)
    {i : Nat} {pc : Nat} {lf : LV} {st : List Value} {σ : PS} (hd : decode (mB k) pc = .ok (.astore i, ilen (.astore i))) (h : ex g C S rec k pc (ilen (.astore i)) lf st σ (.astore i) = some (r, τ)) : VV p l e s m args below meth c D g C S k σ0 Q pc lf st σ := by
  unfold ex at h
  dsimp only [ilen] at h
  split at h
  · split at h
    · next q hq =>
      split at h
      · next hi =>
        cases rOf_eq hq
        exact VV.stl hi (hrec _ _ _ _ h) (fun H locs ls cl sl hl kk => w_astore X.1.1 X.1.2.1 hd hl hi kk)
      · cases h
    · cases h
  · cases h
theorem xs_astore_n (X : Cx p l s m args meth c D g C S k σ0) {rec : Nat → Nat → LV → List Value → PS → Option (Rs × PS)} {Q : State → Prop} {r : Rs} {τ : PS} (hrec : ∀ pc lf st σ, rec k pc lf st σ = some (r, τ) → VV p l e s m args below meth c D g C S k σ0 Q pc lf st σ)
    {n : Fin 4} {pc : Nat} {lf : LV} {st : List Value} {σ : PS} (hd : decode (mB k) pc = .ok (.astore_n n, ilen (.astore_n n))) (h : ex g C S rec k pc (ilen (.astore_n n)) lf st σ (.astore_n n) = some (r, τ)) : VV p l e s m args below meth c D g C S k σ0 Q pc lf st σ := by
  unfold ex at h
  dsimp only [ilen] at h
  split at h
  · split at h
    · next q hq =>
      split at h
      · next hi =>
        cases rOf_eq hq
        exact VV.stl hi (hrec _ _ _ _ h) (fun H locs ls cl sl hl kk => w_astore_n X.1.1 X.1.2.1 hd hl hi kk)
      · cases h
    · cases h
  · cases h
theorem xs_iinc (X : Cx p l s m args meth c D g C S k σ0) {rec : Nat → Nat → LV → List Value → PS → Option (Rs × PS)} {Q : State → Prop} {r : Rs} {τ : PS} (hrec : ∀ pc lf st σ, rec k pc lf st σ = some (r, τ) → VV p l e s m args below meth c D g C S k σ0 Q pc lf st σ)
    {i : Nat} {n : Int} {pc : Nat} {lf : LV} {st : List Value} {σ : PS} (hd : decode (mB k) pc = .ok (.iinc i n, ilen (.iinc i n))) (h : ex g C S rec k pc (ilen (.iinc i n)) lf st σ (.iinc i n) = some (r, τ)) : VV p l e s m args below meth c D g C S k σ0 Q pc lf st σ := by
  unfold ex at h
  dsimp only [ilen] at h
  split at h
  · next hi =>
    split at h
    · next x hv =>
      obtain ⟨j, hj⟩ := List.getElem?_of_mem (pr_mem.mpr hv)
      exact VV.stl hi (hrec _ _ _ _ h) (fun H locs ls cl sl hl kk => lv_iinc X.1.1 X.1.2.1 hd hl hj rfl hi rfl kk)
    · cases h
  · cases h
theorem xs_iadd (X : Cx p l s m args meth c D g C S k σ0) {rec : Nat → Nat → LV → List Value → PS → Option (Rs × PS)} {Q : State → Prop} {r : Rs} {τ : PS} (hrec : ∀ pc lf st σ, rec k pc lf st σ = some (r, τ) → VV p l e s m args below meth c D g C S k σ0 Q pc lf st σ)
    {pc : Nat} {lf : LV} {st : List Value} {σ : PS} (hd : decode (mB k) pc = .ok (.iadd, ilen (.iadd))) (h : ex g C S rec k pc (ilen (.iadd)) lf st σ (.iadd) = some (r, τ)) : VV p l e s m args below meth c D g C S k σ0 Q pc lf st σ := by
  unfold ex at h
  dsimp only [ilen] at h
  split at h
  · exact (hrec _ _ _ _ h).stp (fun H locs ls cl sl hl kk => lv_iadd X.1.1 X.1.2.1 hd kk)
  · cases h
theorem xs_isub (X : Cx p l s m args meth c D g C S k σ0) {rec : Nat → Nat → LV → List Value → PS → Option (Rs × PS)} {Q : State → Prop} {r : Rs} {τ : PS} (hrec : ∀ pc lf st σ, rec k pc lf st σ = some (r, τ) → VV p l e s m args below meth c D g C S k σ0 Q pc lf st σ)
    {pc : Nat} {lf : LV} {st : List Value} {σ : PS} (hd : decode (mB k) pc = .ok (.isub, ilen (.isub))) (h : ex g C S rec k pc (ilen (.isub)) lf st σ (.isub) = some (r, τ)) : VV p l e s m args below meth c D g C S k σ0 Q pc lf st σ := by
  unfold ex at h
  dsimp only [ilen] at h
  split at h
  · exact (hrec _ _ _ _ h).stp (fun H locs ls cl sl hl kk => lv_isub X.1.1 X.1.2.1 hd kk)
  · cases h
theorem xs_imul (X : Cx p l s m args meth c D g C S k σ0) {rec : Nat → Nat → LV → List Value → PS → Option (Rs × PS)} {Q : State → Prop} {r : Rs} {τ : PS} (hrec : ∀ pc lf st σ, rec k pc lf st σ = some (r, τ) → VV p l e s m args below meth c D g C S k σ0 Q pc lf st σ)
    {pc : Nat} {lf : LV} {st : List Value} {σ : PS} (hd : decode (mB k) pc = .ok (.imul, ilen (.imul))) (h : ex g C S rec k pc (ilen (.imul)) lf st σ (.imul) = some (r, τ)) : VV p l e s m args below meth c D g C S k σ0 Q pc lf st σ := by
  unfold ex at h
  dsimp only [ilen] at h
  split at h
  · exact (hrec _ _ _ _ h).stp (fun H locs ls cl sl hl kk => lv_imul X.1.1 X.1.2.1 hd kk)
  · cases h
theorem xs_iand (X : Cx p l s m args meth c D g C S k σ0) {rec : Nat → Nat → LV → List Value → PS → Option (Rs × PS)} {Q : State → Prop} {r : Rs} {τ : PS} (hrec : ∀ pc lf st σ, rec k pc lf st σ = some (r, τ) → VV p l e s m args below meth c D g C S k σ0 Q pc lf st σ)
    {pc : Nat} {lf : LV} {st : List Value} {σ : PS} (hd : decode (mB k) pc = .ok (.iand, ilen (.iand))) (h : ex g C S rec k pc (ilen (.iand)) lf st σ (.iand) = some (r, τ)) : VV p l e s m args below meth c D g C S k σ0 Q pc lf st σ := by
  unfold ex at h
  dsimp only [ilen] at h
  split at h
  · exact (hrec _ _ _ _ h).stp (fun H locs ls cl sl hl kk => lv_iand X.1.1 X.1.2.1 hd kk)
  · cases h
theorem xs_ishr (X : Cx p l s m args meth c D g C S k σ0) {rec : Nat → Nat → LV → List Value → PS → Option (Rs × PS)} {Q : State → Prop} {r : Rs} {τ : PS} (hrec : ∀ pc lf st σ, rec k pc lf st σ = some (r, τ) → VV p l e s m args below meth c D g C S k σ0 Q pc lf st σ)
    {pc : Nat} {lf : LV} {st : List Value} {σ : PS} (hd : decode (mB k) pc = .ok (.ishr, ilen (.ishr))) (h : ex g C S rec k pc (ilen (.ishr)) lf st σ (.ishr) = some (r, τ)) : VV p l e s m args below meth c D g C S k σ0 Q pc lf st σ := by
  unfold ex at h
  dsimp only [ilen] at h
  split at h
  · exact (hrec _ _ _ _ h).stp (fun H locs ls cl sl hl kk => lv_ishr X.1.1 X.1.2.1 hd kk)
  · cases h
theorem xs_iushr (X : Cx p l s m args meth c D g C S k σ0) {rec : Nat → Nat → LV → List Value → PS → Option (Rs × PS)} {Q : State → Prop} {r : Rs} {τ : PS} (hrec : ∀ pc lf st σ, rec k pc lf st σ = some (r, τ) → VV p l e s m args below meth c D g C S k σ0 Q pc lf st σ)
    {pc : Nat} {lf : LV} {st : List Value} {σ : PS} (hd : decode (mB k) pc = .ok (.iushr, ilen (.iushr))) (h : ex g C S rec k pc (ilen (.iushr)) lf st σ (.iushr) = some (r, τ)) : VV p l e s m args below meth c D g C S k σ0 Q pc lf st σ := by
  unfold ex at h
  dsimp only [ilen] at h
  split at h
  · exact (hrec _ _ _ _ h).stp (fun H locs ls cl sl hl kk => lv_iushr X.1.1 X.1.2.1 hd rfl kk)
  · cases h
theorem xs_lcmp (X : Cx p l s m args meth c D g C S k σ0) {rec : Nat → Nat → LV → List Value → PS → Option (Rs × PS)} {Q : State → Prop} {r : Rs} {τ : PS} (hrec : ∀ pc lf st σ, rec k pc lf st σ = some (r, τ) → VV p l e s m args below meth c D g C S k σ0 Q pc lf st σ)
    {pc : Nat} {lf : LV} {st : List Value} {σ : PS} (hd : decode (mB k) pc = .ok (.lcmp, ilen (.lcmp))) (h : ex g C S rec k pc (ilen (.lcmp)) lf st σ (.lcmp) = some (r, τ)) : VV p l e s m args below meth c D g C S k σ0 Q pc lf st σ := by
  unfold ex at h
  dsimp only [ilen] at h
  split at h
  · exact (hrec _ _ _ _ h).stp (fun H locs ls cl sl hl kk => W.lcmp X.1.1 X.1.2.1 hd kk)
  · cases h
theorem xs_l2i (X : Cx p l s m args meth c D g C S k σ0) {rec : Nat → Nat → LV → List Value → PS → Option (Rs × PS)} {Q : State → Prop} {r : Rs} {τ : PS} (hrec : ∀ pc lf st σ, rec k pc lf st σ = some (r, τ) → VV p l e s m args below meth c D g C S k σ0 Q pc lf st σ)
    {pc : Nat} {lf : LV} {st : List Value} {σ : PS} (hd : decode (mB k) pc = .ok (.l2i, ilen (.l2i))) (h : ex g C S rec k pc (ilen (.l2i)) lf st σ (.l2i) = some (r, τ)) : VV p l e s m args below meth c D g C S k σ0 Q pc lf st σ := by
  unfold ex at h
  dsimp only [ilen] at h
  split at h
  · exact (hrec _ _ _ _ h).stp (fun H locs ls cl sl hl kk => lv_l2i X.1.1 X.1.2.1 hd rfl kk)
  · cases h
theorem xs_i2c (X : Cx p l s m args meth c D g C S k σ0) {rec : Nat → Nat → LV → List Value → PS → Option (Rs × PS)} {Q : State → Prop} {r : Rs} {τ : PS} (hrec : ∀ pc lf st σ, rec k pc lf st σ = some (r, τ) → VV p l e s m args below meth c D g C S k σ0 Q pc lf st σ)
    {pc : Nat} {lf : LV} {st : List Value} {σ : PS} (hd : decode (mB k) pc = .ok (.i2c, ilen (.i2c))) (h : ex g C S rec k pc (ilen (.i2c)) lf st σ (.i2c) = some (r, τ)) : VV p l e s m args below meth c D g C S k σ0 Q pc lf st σ := by
  unfold ex at h
  dsimp only [ilen] at h
  split at h
  · exact (hrec _ _ _ _ h).stp (fun H locs ls cl sl hl kk => lv_i2c X.1.1 X.1.2.1 hd rfl kk)
  · cases h
theorem xs_idiv (X : Cx p l s m args meth c D g C S k σ0) {rec : Nat → Nat → LV → List Value → PS → Option (Rs × PS)} {Q : State → Prop} {r : Rs} {τ : PS} (hrec : ∀ pc lf st σ, rec k pc lf st σ = some (r, τ) → VV p l e s m args below meth c D g C S k σ0 Q pc lf st σ)
    {pc : Nat} {lf : LV} {st : List Value} {σ : PS} (hd : decode (mB k) pc = .ok (.idiv, ilen (.idiv))) (h : ex g C S rec k pc (ilen (.idiv)) lf st σ (.idiv) = some (r, τ)) : VV p l e s m args below meth c D g C S k σ0 Q pc lf st σ := by
  unfold ex at h
  dsimp only [ilen] at h
  split at h
  · split at h
    · cases h
    · next hy => exact (hrec _ _ _ _ h).stp (fun H locs ls cl sl hl kk => lv_idiv X.1.1 X.1.2.1 hd hy kk)
  · cases h
theorem xs_irem (X : Cx p l s m args meth c D g C S k σ0) {rec : Nat → Nat → LV → List Value → PS → Option (Rs × PS)} {Q : State → Prop} {r : Rs} {τ : PS} (hrec : ∀ pc lf st σ, rec k pc lf st σ = some (r, τ) → VV p l e s m args below meth c D g C S k σ0 Q pc lf st σ)
    {pc : Nat} {lf : LV} {st : List Value} {σ : PS} (hd : decode (mB k) pc = .ok (.irem, ilen (.irem))) (h : ex g C S rec k pc (ilen (.irem)) lf st σ (.irem) = some (r, τ)) : VV p l e s m args below meth c D g C S k σ0 Q pc lf st σ := by
  unfold ex at h
  dsimp only [ilen] at h
  split at h
  · split at h
    · cases h
    · next hy => exact (hrec _ _ _ _ h).stp (fun H locs ls cl sl hl kk => lv_irem X.1.1 X.1.2.1 hd hy kk)
  · cases h
theorem xs_ldiv (X : Cx p l s m args meth c D g C S k σ0) {rec : Nat → Nat → LV → List Value → PS → Option (Rs × PS)} {Q : State → Prop} {r : Rs} {τ : PS} (hrec : ∀ pc lf st σ, rec k pc lf st σ = some (r, τ) → VV p l e s m args below meth c D g C S k σ0 Q pc lf st σ)
    {pc : Nat} {lf : LV} {st : List Value} {σ : PS} (hd : decode (mB k) pc = .ok (.ldiv, ilen (.ldiv))) (h : ex g C S rec k pc (ilen (.ldiv)) lf st σ (.ldiv) = some (r, τ)) : VV p l e s m args below meth c D g C S k σ0 Q pc lf st σ := by
  unfold ex at h
  dsimp only [ilen] at h
  split at h
  · split at h
    · cases h
    · next hy => exact (hrec _ _ _ _ h).stp (fun H locs ls cl sl hl kk => lv_ldiv X.1.1 X.1.2.1 hd hy kk)
  · cases h
theorem xs_lrem (X : Cx p l s m args meth c D g C S k σ0) {rec : Nat → Nat → LV → List Value → PS → Option (Rs × PS)} {Q : State → Prop} {r : Rs} {τ : PS} (hrec : ∀ pc lf st σ, rec k pc lf st σ = some (r, τ) → VV p l e s m args below meth c D g C S k σ0 Q pc lf st σ)
    {pc : Nat} {lf : LV} {st : List Value} {σ : PS} (hd : decode (mB k) pc = .ok (.lrem, ilen (.lrem))) (h : ex g C S rec k pc (ilen (.lrem)) lf st σ (.lrem) = some (r, τ)) : VV p l e s m args below meth c D g C S k σ0 Q pc lf st σ := by
  unfold ex at h
  dsimp only [ilen] at h
  split at h
  · split at h
    · cases h
    · next hy => exact (hrec _ _ _ _ h).stp (fun H locs ls cl sl hl kk => lv_lrem X.1.1 X.1.2.1 hd hy kk)
  · cases h
theorem xs_dup (X : Cx p l s m args meth c D g C S k σ0) {rec : Nat → Nat → LV → List Value → PS → Option (Rs × PS)} {Q : State → Prop} {r : Rs} {τ : PS} (hrec : ∀ pc lf st σ, rec k pc lf st σ = some (r, τ) → VV p l e s m args below meth c D g C S k σ0 Q pc lf st σ)
    {pc : Nat} {lf : LV} {st : List Value} {σ : PS} (hd : decode (mB k) pc = .ok (.dup, ilen (.dup))) (h : ex g C S rec k pc (ilen (.dup)) lf st σ (.dup) = some (r, τ)) : VV p l e s m args below meth c D g C S k σ0 Q pc lf st σ := by
  unfold ex at h
  dsimp only [ilen] at h
  split at h
  · split at h
    · next hv => exact (hrec _ _ _ _ h).stp (fun H locs ls cl sl hl kk => lv_dup X.1.1 X.1.2.1 hd hv kk)
    · cases h
  · cases h
theorem xs_pop (X : Cx p l s m args meth c D g C S k σ0) {rec : Nat → Nat → LV → List Value → PS → Option (Rs × PS)} {Q : State → Prop} {r : Rs} {τ : PS} (hrec : ∀ pc lf st σ, rec k pc lf st σ = some (r, τ) → VV p l e s m args below meth c D g C S k σ0 Q pc lf st σ)
    {pc : Nat} {lf : LV} {st : List Value} {σ : PS} (hd : decode (mB k) pc = .ok (.pop, ilen (.pop))) (h : ex g C S rec k pc (ilen (.pop)) lf st σ (.pop) = some (r, τ)) : VV p l e s m args below meth c D g C S k σ0 Q pc lf st σ := by
  unfold ex at h
  dsimp only [ilen] at h
  split at h
  · split at h
    · next hv => exact (hrec _ _ _ _ h).stp (fun H locs ls cl sl hl kk => lv_pop X.1.1 X.1.2.1 hd hv kk)
    · cases h
  · cases h
theorem xs_dup_x1 (X : Cx p l s m args meth c D g C S k σ0) {rec : Nat → Nat → LV → List Value → PS → Option (Rs × PS)} {Q : State → Prop} {r : Rs} {τ : PS} (hrec : ∀ pc lf st σ, rec k pc lf st σ = some (r, τ) → VV p l e s m args below meth c D g C S k σ0 Q pc lf st σ)
    {pc : Nat} {lf : LV} {st : List Value} {σ : PS} (hd : decode (mB k) pc = .ok (.dup_x1, ilen (.dup_x1))) (h : ex g C S rec k pc (ilen (.dup_x1)) lf st σ (.dup_x1) = some (r, τ)) : VV p l e s m args below meth c D g C S k σ0 Q pc lf st σ := by
  unfold ex at h
  dsimp only [ilen] at h
  split at h
  · split at h
    · next hv => exact (hrec _ _ _ _ h).stp (fun H locs ls cl sl hl kk => lv_dup_x1 X.1.1 X.1.2.1 hd hv.1 hv.2 kk)
    · cases h
  · cases h
theorem xs_dup2 (X : Cx p l s m args meth c D g C S k σ0) {rec : Nat → Nat → LV → List Value → PS → Option (Rs × PS)} {Q : State → Prop} {r : Rs} {τ : PS} (hrec : ∀ pc lf st σ, rec k pc lf st σ = some (r, τ) → VV p l e s m args below meth c D g C S k σ0 Q pc lf st σ)
    {pc : Nat} {lf : LV} {st : List Value} {σ : PS} (hd : decode (mB k) pc = .ok (.dup2, ilen (.dup2))) (h : ex g C S rec k pc (ilen (.dup2)) lf st σ (.dup2) = some (r, τ)) : VV p l e s m args below meth c D g C S k σ0 Q pc lf st σ := by
  unfold ex at h
  dsimp only [ilen] at h
  split at h
  · split at h
    · next hv => exact (hrec _ _ _ _ h).stp (fun H locs ls cl sl hl kk => lv_dup2_11 X.1.1 X.1.2.1 hd hv.1 hv.2 kk)
    · cases h
  · cases h
theorem xs_goto (X : Cx p l s m args meth c D g C S k σ0) {rec : Nat → Nat → LV → List Value → PS → Option (Rs × PS)} {Q : State → Prop} {r : Rs} {τ : PS} (hrec : ∀ pc lf st σ, rec k pc lf st σ = some (r, τ) → VV p l e s m args below meth c D g C S k σ0 Q pc lf st σ)
    {off : Int} {pc : Nat} {lf : LV} {st : List Value} {σ : PS} (hd : decode (mB k) pc = .ok (.goto off, ilen (.goto off))) (h : ex g C S rec k pc (ilen (.goto off)) lf st σ (.goto off) = some (r, τ)) : VV p l e s m args below meth c D g C S k σ0 Q pc lf st σ := by
  unfold ex at h
  dsimp only [ilen] at h
  split at h
  · next t ht => exact (hrec _ _ _ _ h).stp (fun H locs ls cl sl hl kk => lv_goto X.1.1 X.1.2.1 hd (jmp_eq ht) kk)
  · cases h
theorem xs_ifCond (X : Cx p l s m args meth c D g C S k σ0) {rec : Nat → Nat → LV → List Value → PS → Option (Rs × PS)} {Q : State → Prop} {r : Rs} {τ : PS} (hrec : ∀ pc lf st σ, rec k pc lf st σ = some (r, τ) → VV p l e s m args below meth c D g C S k σ0 Q pc lf st σ)
    {cd : Jvm.ClassFile.Cond} {off : Int} {pc : Nat} {lf : LV} {st : List Value} {σ : PS} (hd : decode (mB k) pc = .ok (.ifCond cd off, ilen (.ifCond cd off))) (h : ex g C S rec k pc (ilen (.ifCond cd off)) lf st σ (.ifCond cd off) = some (r, τ)) : VV p l e s m args below meth c D g C S k σ0 Q pc lf st σ := by
  unfold ex at h
  dsimp only [ilen] at h
  split at h
  · next t ht =>
    split at h
    · next hc => exact (hrec _ _ _ _ h).stp (fun H locs ls cl sl hl kk => w_if cd X.1.1 X.1.2.1 hd (jmp_eq ht) (fun _ => kk) (fun q => absurd hc q))
    · next hc => exact (hrec _ _ _ _ h).stp (fun H locs ls cl sl hl kk => w_if cd X.1.1 X.1.2.1 hd (jmp_eq ht) (fun q => absurd q hc) (fun _ => kk))
  · cases h
theorem xs_if_icmp (X : Cx p l s m args meth c D g C S k σ0) {rec : Nat → Nat → LV → List Value → PS → Option (Rs × PS)} {Q : State → Prop} {r : Rs} {τ : PS} (hrec : ∀ pc lf st σ, rec k pc lf st σ = some (r, τ) → VV p l e s m args below meth c D g C S k σ0 Q pc lf st σ)
    {cd : Jvm.ClassFile.Cond} {off : Int} {pc : Nat} {lf : LV} {st : List Value} {σ : PS} (hd : decode (mB k) pc = .ok (.if_icmp cd off, ilen (.if_icmp cd off))) (h : ex g C S rec k pc (ilen (.if_icmp cd off)) lf st σ (.if_icmp cd off) = some (r, τ)) : VV p l e s m args below meth c D g C S k σ0 Q pc lf st σ := by
  unfold ex at h
  dsimp only [ilen] at h
  split at h
  · next t ht =>
    split at h
    · next hc => exact (hrec _ _ _ _ h).stp (fun H locs ls cl sl hl kk => w_icmp cd X.1.1 X.1.2.1 hd (jmp_eq ht) (fun _ => kk) (fun q => absurd hc q))
    · next hc => exact (hrec _ _ _ _ h).stp (fun H locs ls cl sl hl kk => w_icmp cd X.1.1 X.1.2.1 hd (jmp_eq ht) (fun q => absurd q hc) (fun _ => kk))
  · cases h
theorem xs_ifnull (X : Cx p l s m args meth c D g C S k σ0) {rec : Nat → Nat → LV → List Value → PS → Option (Rs × PS)} {Q : State → Prop} {r : Rs} {τ : PS} (hrec : ∀ pc lf st σ, rec k pc lf st σ = some (r, τ) → VV p l e s m args below meth c D g C S k σ0 Q pc lf st σ)
    {off : Int} {pc : Nat} {lf : LV} {st : List Value} {σ : PS} (hd : decode (mB k) pc = .ok (.ifnull off, ilen (.ifnull off))) (h : ex g C S rec k pc (ilen (.ifnull off)) lf st σ (.ifnull off) = some (r, τ)) : VV p l e s m args below meth c D g C S k σ0 Q pc lf st σ := by
  unfold ex at h
  dsimp only [ilen] at h
  split at h
  · exact (hrec _ _ _ _ h).stp (fun H locs ls cl sl hl kk => lv_ifnull X.1.1 X.1.2.1 hd kk)
  · split at h
    · next t ht => exact (hrec _ _ _ _ h).stp (fun H locs ls cl sl hl kk => lv_ifnullN X.1.1 X.1.2.1 hd (jmp_eq ht) kk)
    · cases h
  · cases h
theorem xs_if_acmp (X : Cx p l s m args meth c D g C S k σ0) {rec : Nat → Nat → LV → List Value → PS → Option (Rs × PS)} {Q : State → Prop} {r : Rs} {τ : PS} (hrec : ∀ pc lf st σ, rec k pc lf st σ = some (r, τ) → VV p l e s m args below meth c D g C S k σ0 Q pc lf st σ)
    {cd : ACond} {off : Int} {pc : Nat} {lf : LV} {st : List Value} {σ : PS} (hd : decode (mB k) pc = .ok (.if_acmp cd off, ilen (.if_acmp cd off))) (h : ex g C S rec k pc (ilen (.if_acmp cd off)) lf st σ (.if_acmp cd off) = some (r, τ)) : VV p l e s m args below meth c D g C S k σ0 Q pc lf st σ := by
  unfold ex at h
  dsimp only [ilen] at h
  split at h
  · next t ht =>
    split at h
    · next x y hx hy =>
      cases rOf_eq hx
      cases rOf_eq hy
      cases cd with
      | eq =>
        dsimp only at h
        split at h
        · next hc => exact (hrec _ _ _ _ h).stp (fun H locs ls cl sl hl kk => lv_acmp_eq X.1.1 X.1.2.1 hd (jmp_eq ht) (fun _ => kk) (fun q => absurd hc q))
        · next hc => exact (hrec _ _ _ _ h).stp (fun H locs ls cl sl hl kk => lv_acmp_eq X.1.1 X.1.2.1 hd (jmp_eq ht) (fun q => absurd q hc) (fun _ => kk))
      | ne =>
        dsimp only at h
        split at h
        · next hc => exact (hrec _ _ _ _ h).stp (fun H locs ls cl sl hl kk => lv_acmp_ne X.1.1 X.1.2.1 hd (jmp_eq ht) (fun q => absurd hc q) (fun _ => kk))
        · next hc => exact (hrec _ _ _ _ h).stp (fun H locs ls cl sl hl kk => lv_acmp_ne X.1.1 X.1.2.1 hd (jmp_eq ht) (fun _ => kk) (fun q => absurd q hc))
    · cases h
  · cases h
theorem xs_getfield (X : Cx p l s m args meth c D g C S k σ0) {rec : Nat → Nat → LV → List Value → PS → Option (Rs × PS)} {Q : State → Prop} {r : Rs} {τ : PS} (hrec : ∀ pc lf st σ, rec k pc lf st σ = some (r, τ) → VV p l e s m args below meth c D g C S k σ0 Q pc lf st σ)
    {i : Nat} {pc : Nat} {lf : LV} {st : List Value} {σ : PS} (hd : decode (mB k) pc = .ok (.getfield i, ilen (.getfield i))) (h : ex g C S rec k pc (ilen (.getfield i)) lf st σ (.getfield i) = some (r, τ)) : VV p l e s m args below meth c D g C S k σ0 Q pc lf st σ := by
  unfold ex at h
  dsimp only [ilen] at h
  unfold getX at h
  split at h
  · next cI j a t hf =>
    split at h
    · next hK => exact v_get X hd hf hK (hrec _ _ _ _ h)
    · cases h
  · cases h
theorem xs_putfield (X : Cx p l s m args meth c D g C S k σ0) {rec : Nat → Nat → LV → List Value → PS → Option (Rs × PS)} {Q : State → Prop} {r : Rs} {τ : PS} (hrec : ∀ pc lf st σ, rec k pc lf st σ = some (r, τ) → VV p l e s m args below meth c D g C S k σ0 Q pc lf st σ)
    {i : Nat} {pc : Nat} {lf : LV} {st : List Value} {σ : PS} (hd : decode (mB k) pc = .ok (.putfield i, ilen (.putfield i))) (h : ex g C S rec k pc (ilen (.putfield i)) lf st σ (.putfield i) = some (r, τ)) : VV p l e s m args below meth c D g C S k σ0 Q pc lf st σ := by
  unfold ex at h
  dsimp only [ilen] at h
  unfold putX at h
  split at h
  · next cI j v a t hf =>
    split at h
    · next hc =>
      obtain ⟨h8, hk, hF⟩ := hc
      obtain ⟨hj, -⟩ := fR_ok _ _ _ _ hf h8
      obtain ⟨-, -, -, -, -, -, c7, -⟩ := cl_ok cI h8
      have hty := (c7 j hj).1
      split at h
      · next hB =>
        split at h
        · next q hq =>
          cases rOf_eq hq
          rcases hty with ⟨-, hr⟩ | ⟨z, -⟩ | ⟨z, -⟩
          · refine v_put X (τ := stP σ a j q) hd hf h8 hk hF ?_ ?_ rfl rfl rfl (cel_up ?_ o_stP) (fun h7 => c_stP h7 (by omega)) (hrec _ _ _ _ h)
            · cases q <;> (cases ht : clY cI j <;> simp [ht, FieldType.isReference] at hr <;> rfl)
            · cases q <;> (cases ht : clY cI j <;> simp [ht, FieldType.isReference] at hr <;> rfl)
            · rw [cel_obj h8 (show zK (stP σ a j q) a = cI + 1 from hk), flds_setP hj hB]
              have e : zP (stP σ a j q) a = fun b => if b = j then q else zP σ a b := by funext b; simp [zP, stP]
              rw [e]
              rfl
          · rw [hB] at z; cases z
          · rw [hB] at z; cases z
        · cases h
      · next hB =>
        have hB : fB cI j = false := by cases hz : fB cI j <;> simp_all
        split at h
        · next x =>
          split at h
          · next hz =>
            refine v_put X (τ := stI σ a j x) hd hf h8 hk hF ?_ ?_ rfl rfl rfl (cel_up ?_ o_stI) (fun h7 => c_stI h7 (by omega)) (hrec _ _ _ _ h)
            · rcases hty with ⟨z, -⟩ | ⟨-, -, z⟩ | ⟨-, z1, z⟩
              · rw [hB] at z; cases z
              · rw [z]; rfl
              · rw [z]
                rcases hz with q | rfl | rfl
                · rw [z1] at q; cases q
                · rfl
                · rfl
            · rcases hty with ⟨z, -⟩ | ⟨-, -, z⟩ | ⟨-, z1, z⟩
              · rw [hB] at z; cases z
              · rw [z]; rfl
              · rw [z]
                rcases hz with q | rfl | rfl
                · rw [z1] at q; cases q
                · rfl
                · rfl
            · rw [cel_obj h8 (show zK (stI σ a j x) a = cI + 1 from hk), flds_setI hj hB]
              have e : zI (stI σ a j x) a = fun b => if b = j then x else zI σ a b := by funext b; simp [zI, stI]
              rw [e]
              rfl
          · cases h
        · cases h
    · cases h
  · cases h
theorem xs_getstatic (X : Cx p l s m args meth c D g C S k σ0) {rec : Nat → Nat → LV → List Value → PS → Option (Rs × PS)} {Q : State → Prop} {r : Rs} {τ : PS} (hrec : ∀ pc lf st σ, rec k pc lf st σ = some (r, τ) → VV p l e s m args below meth c D g C S k σ0 Q pc lf st σ)
    {i : Nat} {pc : Nat} {lf : LV} {st : List Value} {σ : PS} (hd : decode (mB k) pc = .ok (.getstatic i, ilen (.getstatic i))) (h : ex g C S rec k pc (ilen (.getstatic i)) lf st σ (.getstatic i) = some (r, τ)) : VV p l e s m args below meth c D g C S k σ0 Q pc lf st σ := by
  unfold ex at h
  dsimp only [ilen] at h
  split at h
  · next j hs =>
    split at h
    · next v hv => exact v_gets X hd hs hv (hrec _ _ _ _ h)
    · cases h
  · cases h
theorem xs_iaload (X : Cx p l s m args meth c D g C S k σ0) {rec : Nat → Nat → LV → List Value → PS → Option (Rs × PS)} {Q : State → Prop} {r : Rs} {τ : PS} (hrec : ∀ pc lf st σ, rec k pc lf st σ = some (r, τ) → VV p l e s m args below meth c D g C S k σ0 Q pc lf st σ)
    {pc : Nat} {lf : LV} {st : List Value} {σ : PS} (hd : decode (mB k) pc = .ok (.iaload, ilen (.iaload))) (h : ex g C S rec k pc (ilen (.iaload)) lf st σ (.iaload) = some (r, τ)) : VV p l e s m args below meth c D g C S k σ0 Q pc lf st σ := by
  unfold ex at h
  dsimp only [ilen] at h
  split at h
  · split at h
    · next hc => exact v_iald X hd hc.1 hc.2.1 hc.2.2 (hrec _ _ _ _ h)
    · cases h
  · cases h
theorem xs_caload (X : Cx p l s m args meth c D g C S k σ0) {rec : Nat → Nat → LV → List Value → PS → Option (Rs × PS)} {Q : State → Prop} {r : Rs} {τ : PS} (hrec : ∀ pc lf st σ, rec k pc lf st σ = some (r, τ) → VV p l e s m args below meth c D g C S k σ0 Q pc lf st σ)
    {pc : Nat} {lf : LV} {st : List Value} {σ : PS} (hd : decode (mB k) pc = .ok (.caload, ilen (.caload))) (h : ex g C S rec k pc (ilen (.caload)) lf st σ (.caload) = some (r, τ)) : VV p l e s m args below meth c D g C S k σ0 Q pc lf st σ := by
  unfold ex at h
  dsimp only [ilen] at h
  split at h
  · split at h
    · next hc => exact v_cald X hd hc.1 hc.2.1 hc.2.2 (hrec _ _ _ _ h)
    · cases h
  · cases h
theorem xs_baload (X : Cx p l s m args meth c D g C S k σ0) {rec : Nat → Nat → LV → List Value → PS → Option (Rs × PS)} {Q : State → Prop} {r : Rs} {τ : PS} (hrec : ∀ pc lf st σ, rec k pc lf st σ = some (r, τ) → VV p l e s m args below meth c D g C S k σ0 Q pc lf st σ)
    {pc : Nat} {lf : LV} {st : List Value} {σ : PS} (hd : decode (mB k) pc = .ok (.baload, ilen (.baload))) (h : ex g C S rec k pc (ilen (.baload)) lf st σ (.baload) = some (r, τ)) : VV p l e s m args below meth c D g C S k σ0 Q pc lf st σ := by
  unfold ex at h
  dsimp only [ilen] at h
  split at h
  · split at h
    · next hc => exact v_bald X hd hc.1 hc.2.1 hc.2.2 (hrec _ _ _ _ h)
    · cases h
  · cases h
theorem xs_aaload (X : Cx p l s m args meth c D g C S k σ0) {rec : Nat → Nat → LV → List Value → PS → Option (Rs × PS)} {Q : State → Prop} {r : Rs} {τ : PS} (hrec : ∀ pc lf st σ, rec k pc lf st σ = some (r, τ) → VV p l e s m args below meth c D g C S k σ0 Q pc lf st σ)
    {pc : Nat} {lf : LV} {st : List Value} {σ : PS} (hd : decode (mB k) pc = .ok (.aaload, ilen (.aaload))) (h : ex g C S rec k pc (ilen (.aaload)) lf st σ (.aaload) = some (r, τ)) : VV p l e s m args below meth c D g C S k σ0 Q pc lf st σ := by
  unfold ex at h
  dsimp only [ilen] at h
  split at h
  · split at h
    · next hc => exact v_aald X hd hc.1 hc.2.1 hc.2.2 (hrec _ _ _ _ h)
    · cases h
  · cases h
theorem xs_iastore (X : Cx p l s m args meth c D g C S k σ0) {rec : Nat → Nat → LV → List Value → PS → Option (Rs × PS)} {Q : State → Prop} {r : Rs} {τ : PS} (hrec : ∀ pc lf st σ, rec k pc lf st σ = some (r, τ) → VV p l e s m args below meth c D g C S k σ0 Q pc lf st σ)
    {pc : Nat} {lf : LV} {st : List Value} {σ : PS} (hd : decode (mB k) pc = .ok (.iastore, ilen (.iastore))) (h : ex g C S rec k pc (ilen (.iastore)) lf st σ (.iastore) = some (r, τ)) : VV p l e s m args below meth c D g C S k σ0 Q pc lf st σ := by
  unfold ex at h
  dsimp only [ilen] at h
  split at h
  · split at h
    · next hc => exact v_iast X hd hc.1 hc.2.1 hc.2.2 (hrec _ _ _ _ h)
    · cases h
  · cases h
theorem xs_castore (X : Cx p l s m args meth c D g C S k σ0) {rec : Nat → Nat → LV → List Value → PS → Option (Rs × PS)} {Q : State → Prop} {r : Rs} {τ : PS} (hrec : ∀ pc lf st σ, rec k pc lf st σ = some (r, τ) → VV p l e s m args below meth c D g C S k σ0 Q pc lf st σ)
    {pc : Nat} {lf : LV} {st : List Value} {σ : PS} (hd : decode (mB k) pc = .ok (.castore, ilen (.castore))) (h : ex g C S rec k pc (ilen (.castore)) lf st σ (.castore) = some (r, τ)) : VV p l e s m args below meth c D g C S k σ0 Q pc lf st σ := by
  unfold ex at h
  dsimp only [ilen] at h
  split at h
  · split at h
    · next hc => exact v_cast X hd hc.1 hc.2.1 hc.2.2 (hrec _ _ _ _ h)
    · cases h
  · cases h
theorem xs_aastore (X : Cx p l s m args meth c D g C S k σ0) {rec : Nat → Nat → LV → List Value → PS → Option (Rs × PS)} {Q : State → Prop} {r : Rs} {τ : PS} (hrec : ∀ pc lf st σ, rec k pc lf st σ = some (r, τ) → VV p l e s m args below meth c D g C S k σ0 Q pc lf st σ)
    {pc : Nat} {lf : LV} {st : List Value} {σ : PS} (hd : decode (mB k) pc = .ok (.aastore, ilen (.aastore))) (h : ex g C S rec k pc (ilen (.aastore)) lf st σ (.aastore) = some (r, τ)) : VV p l e s m args below meth c D g C S k σ0 Q pc lf st σ := by
  unfold ex at h
  dsimp only [ilen] at h
  split at h
  · split at h
    · next hc => exact v_aast X hd hc.1 hc.2.1 hc.2.2 (hrec _ _ _ _ h)
    · cases h
  · cases h
theorem xs_arraylength (X : Cx p l s m args meth c D g C S k σ0) {rec : Nat → Nat → LV → List Value → PS → Option (Rs × PS)} {Q : State → Prop} {r : Rs} {τ : PS} (hrec : ∀ pc lf st σ, rec k pc lf st σ = some (r, τ) → VV p l e s m args below meth c D g C S k σ0 Q pc lf st σ)
    {pc : Nat} {lf : LV} {st : List Value} {σ : PS} (hd : decode (mB k) pc = .ok (.arraylength, ilen (.arraylength))) (h : ex g C S rec k pc (ilen (.arraylength)) lf st σ (.arraylength) = some (r, τ)) : VV p l e s m args below meth c D g C S k σ0 Q pc lf st σ := by
  unfold ex at h
  dsimp only [ilen] at h
  split at h
  · split at h
    · next hc => exact v_alen X hd hc (hrec _ _ _ _ h)
    · cases h
  · cases h
theorem xs_new (X : Cx p l s m args meth c D g C S k σ0) {rec : Nat → Nat → LV → List Value → PS → Option (Rs × PS)} {Q : State → Prop} {r : Rs} {τ : PS} (hrec : ∀ pc lf st σ, rec k pc lf st σ = some (r, τ) → VV p l e s m args below meth c D g C S k σ0 Q pc lf st σ)
    {i : Nat} {pc : Nat} {lf : LV} {st : List Value} {σ : PS} (hd : decode (mB k) pc = .ok (.new i, ilen (.new i))) (h : ex g C S rec k pc (ilen (.new i)) lf st σ (.new i) = some (r, τ)) : VV p l e s m args below meth c D g C S k σ0 Q pc lf st σ := by
  unfold ex at h
  dsimp only [ilen] at h
  split at h
  · next cI hk =>
    split at h
    · next hc => exact v_new X hd hk hc.1 hc.2.1 hc.2.2 (hrec _ _ _ _ h)
    · cases h
  · cases h
theorem xs_newarray (X : Cx p l s m args meth c D g C S k σ0) {rec : Nat → Nat → LV → List Value → PS → Option (Rs × PS)} {Q : State → Prop} {r : Rs} {τ : PS} (hrec : ∀ pc lf st σ, rec k pc lf st σ = some (r, τ) → VV p l e s m args below meth c D g C S k σ0 Q pc lf st σ)
    {t : ArrayType} {pc : Nat} {lf : LV} {st : List Value} {σ : PS} (hd : decode (mB k) pc = .ok (.newarray t, ilen (.newarray t))) (h : ex g C S rec k pc (ilen (.newarray t)) lf st σ (.newarray t) = some (r, τ)) : VV p l e s m args below meth c D g C S k σ0 Q pc lf st σ := by
  unfold ex at h
  dsimp only [ilen] at h
  split at h
  · split at h
    · next hc =>
      cases t with
      | int => exact v_newa X false hd hc.1 hc.2.1 hc.2.2.1 hc.2.2.2 (hrec _ _ _ _ h)
      | char => exact v_newa X true hd hc.1 hc.2.1 hc.2.2.1 hc.2.2.2 (hrec _ _ _ _ h)
      | _ => cases h
    · cases h
  · cases h
theorem xs_anewarray (X : Cx p l s m args meth c D g C S k σ0) {rec : Nat → Nat → LV → List Value → PS → Option (Rs × PS)} {Q : State → Prop} {r : Rs} {τ : PS} (hrec : ∀ pc lf st σ, rec k pc lf st σ = some (r, τ) → VV p l e s m args below meth c D g C S k σ0 Q pc lf st σ)
    {i : Nat} {pc : Nat} {lf : LV} {st : List Value} {σ : PS} (hd : decode (mB k) pc = .ok (.anewarray i, ilen (.anewarray i))) (h : ex g C S rec k pc (ilen (.anewarray i)) lf st σ (.anewarray i) = some (r, τ)) : VV p l e s m args below meth c D g C S k σ0 Q pc lf st σ := by
  unfold ex at h
  dsimp only [ilen] at h
  split at h
  · next cI n t hk =>
    split at h
    · next hc => exact v_anew X hd hk hc.1 hc.2.1 hc.2.2.1 hc.2.2.2.1 hc.2.2.2.2 (hrec _ _ _ _ h)
    · cases h
  · cases h
theorem xs_checkcast (X : Cx p l s m args meth c D g C S k σ0) {rec : Nat → Nat → LV → List Value → PS → Option (Rs × PS)} {Q : State → Prop} {r : Rs} {τ : PS} (hrec : ∀ pc lf st σ, rec k pc lf st σ = some (r, τ) → VV p l e s m args below meth c D g C S k σ0 Q pc lf st σ)
    {i : Nat} {pc : Nat} {lf : LV} {st : List Value} {σ : PS} (hd : decode (mB k) pc = .ok (.checkcast i, ilen (.checkcast i))) (h : ex g C S rec k pc (ilen (.checkcast i)) lf st σ (.checkcast i) = some (r, τ)) : VV p l e s m args below meth c D g C S k σ0 Q pc lf st σ := by
  unfold ex at h
  dsimp only [ilen] at h
  split at h
  · next cI a t hk =>
    split at h
    · next hc => exact v_chk X hd hk hc (hrec _ _ _ _ h)
    · cases h
  · cases h
theorem xs_ldc (X : Cx p l s m args meth c D g C S k σ0) {rec : Nat → Nat → LV → List Value → PS → Option (Rs × PS)} {Q : State → Prop} {r : Rs} {τ : PS} (hrec : ∀ pc lf st σ, rec k pc lf st σ = some (r, τ) → VV p l e s m args below meth c D g C S k σ0 Q pc lf st σ)
    {i : Nat} {pc : Nat} {lf : LV} {st : List Value} {σ : PS} (hd : decode (mB k) pc = .ok (.ldc i, ilen (.ldc i))) (h : ex g C S rec k pc (ilen (.ldc i)) lf st σ (.ldc i) = some (r, τ)) : VV p l e s m args below meth c D g C S k σ0 Q pc lf st σ := by
  unfold ex at h
  dsimp only [ilen] at h
  split at h
  · next j hk => exact v_ldcS X hd hk (hrec _ _ _ _ h)
  · split at h
    · next hc =>
      obtain ⟨ho, rfl⟩ := hc
      have hw := X.1.2.2.2.1
      rw [ho] at hw
      exact (hrec _ _ _ _ h).stp (fun H locs ls cl sl hl kk => va_ldcM X.1.1 X.1.2.1 hw (X.1.2.2.2.2 _ gs_cl110) X.2.2.1.1.2.2.2.2.2.2.1 hd kk)
    · split at h
      · next hc =>
        obtain ⟨ho, rfl⟩ := hc
        have hw := X.1.2.2.2.1
        rw [ho] at hw
        exact (hrec _ _ _ _ h).stp (fun H locs ls cl sl hl kk => lv_ldc X.1.1 X.1.2.1 hw (X.1.2.2.2.2 _ gs_200) hd kk)
      · cases h
theorem xs_ldc2_w (X : Cx p l s m args meth c D g C S k σ0) {rec : Nat → Nat → LV → List Value → PS → Option (Rs × PS)} {Q : State → Prop} {r : Rs} {τ : PS} (hrec : ∀ pc lf st σ, rec k pc lf st σ = some (r, τ) → VV p l e s m args below meth c D g C S k σ0 Q pc lf st σ)
    {i : Nat} {pc : Nat} {lf : LV} {st : List Value} {σ : PS} (hd : decode (mB k) pc = .ok (.ldc2_w i, ilen (.ldc2_w i))) (h : ex g C S rec k pc (ilen (.ldc2_w i)) lf st σ (.ldc2_w i) = some (r, τ)) : VV p l e s m args below meth c D g C S k σ0 Q pc lf st σ := by
  unfold ex at h
  dsimp only [ilen] at h
  split at h
  · next v hk => exact (hrec _ _ _ _ h).stp (fun H locs ls cl sl hl kk => lv_ldc2 X.1.1 X.1.2.1 X.1.2.2.2.1 (X.1.2.2.2.2 _ (lL_ok _ _ _ hk)) hd kk)
  · cases h
end Dsp
