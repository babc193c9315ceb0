theorem zOK_stI {σ : PS} {a k : Nat} {v : Int32} (h : zOK σ) : zOK (stI σ a k v) := h
theorem zOK_stP {σ : PS} {a k : Nat} {v : Option Nat} (h : zOK σ) : zOK (stP σ a k v) := h
theorem zOK_cpI {σ : PS} {a sp b dp n : Nat} (h : zOK σ) : zOK (cpI σ a sp b dp n) := h
theorem zOK_cpP {σ : PS} {a sp b dp n : Nat} (h : zOK σ) : zOK (cpP σ a sp b dp n) := h
section CalS
variable {g : Nat → Nat} {rec : List Value → PS → Option (Rs × PS)} {k : Nat} {σ : PS} {r : List Value}
theorem calS_oi {a : Nat} : calS g rec k (.ref a :: r) σ 1000 1 = if r.length ≤ 4 ∧ 1 ≤ mF k ∧ 20 ≤ mW k then rec r σ else none := rfl
theorem calS_cp {n dp sp : Int32} {a b : Nat} : calS g rec k (.int n :: .int dp :: .ref b :: .int sp :: .ref a :: r) σ 1001 2 = if r.length ≤ 4 ∧ 1 ≤ mF k ∧ 60 ≤ mW k ∧ ¬ sp < 0 ∧ ¬ dp < 0 ∧ ¬ n < 0 then calA (rec r) σ a sp.toNatClampNeg b dp.toNatClampNeg n.toNatClampNeg else none := rfl
theorem calS_mx {x y : Int32} : calS g rec k (.int y :: .int x :: r) σ 1002 2 = if r.length ≤ 4 ∧ 1 ≤ mF k ∧ 21 ≤ mW k then rec (.int (if x < y then y else x) :: r) σ else none := rfl
theorem calS_mn {x y : Int32} : calS g rec k (.int y :: .int x :: r) σ 1003 2 = if r.length ≤ 4 ∧ 1 ≤ mF k ∧ 21 ≤ mW k then rec (.int (if y < x then y else x) :: r) σ else none := rfl
theorem calS_gc {a : Nat} : calS g rec k (.ref a :: r) σ 1004 0 = if r.length ≤ 4 ∧ 1 ≤ mF k ∧ 22 ≤ mW k ∧ zK σ a = 104 then rec (.ref (g 7) :: r) σ else none := rfl
end CalS
section Rules
variable {g : Nat → Nat} {C S k pc pc' : Nat} {ls : LV} {st : List Value} {σ : PS} {Q : Rs → PS → Prop}
theorem r_ic {n : Int} {v : Int32} (hd : decode (mB k) pc = .ok (.iconst n, 1)) (hv : Int32.ofInt n = v) (h : WP g C S k (pc + 1) ls (.int v :: st) σ Q) (ht : tR k pc = none := by rfl) : WP g C S k pc ls st σ Q := by
  subst hv
  exact r_g hd (fun _ => rfl) h rfl ht
theorem r_bi {n : Int} {v : Int32} (hd : decode (mB k) pc = .ok (.bipush n, 2)) (hv : (Int8.ofInt n).toInt32 = v) (h : WP g C S k (pc + 2) ls (.int v :: st) σ Q) (ht : tR k pc = none := by rfl) : WP g C S k pc ls st σ Q := by
  subst hv
  exact r_g hd (fun _ => rfl) h rfl ht
theorem r_si {n : Int} {v : Int32} (hd : decode (mB k) pc = .ok (.sipush n, 3)) (hv : (Int16.ofInt n).toInt32 = v) (h : WP g C S k (pc + 3) ls (.int v :: st) σ Q) (ht : tR k pc = none := by rfl) : WP g C S k pc ls st σ Q := by
  subst hv
  exact r_g hd (fun _ => rfl) h rfl ht
theorem r_goto {off : Int} {t : Nat} (hd : decode (mB k) pc = .ok (.goto off, 3)) (hj : jmp pc off = some t) (h : WP g C S k t ls st σ Q) (ht : tR k pc = none := by rfl) : WP g C S k pc ls st σ Q :=
  r_g hd (fun rec => by unfold ex; dsimp only; rw [hj]) h rfl ht
theorem r_if {cd : Jvm.ClassFile.Cond} {off : Int} {t : Nat} {x : Int32} {P : Prop} (hd : decode (mB k) pc = .ok (.ifCond cd off, 3)) (hj : jmp pc off = some t) (hP : cnd cd x 0 = true ↔ P) (h1 : P → WP g C S k t ls st σ Q) (h2 : ¬ P → WP g C S k (pc + 3) ls st σ Q) (ht : tR k pc = none := by rfl) : WP g C S k pc ls (.int x :: st) σ Q := by
  by_cases hp : P
  · exact r_g hd (fun rec => by unfold ex; dsimp only; rw [hj]; dsimp only; rw [if_pos (hP.mpr hp)]) (h1 hp) rfl ht
  · exact r_g hd (fun rec => by unfold ex; dsimp only; rw [hj]; dsimp only; rw [if_neg (fun q => hp (hP.mp q))]; rfl) (h2 hp) rfl ht
theorem r_icmp {cd : Jvm.ClassFile.Cond} {off : Int} {t : Nat} {x y : Int32} {P : Prop} (hd : decode (mB k) pc = .ok (.if_icmp cd off, 3)) (hj : jmp pc off = some t) (hP : cnd cd x y = true ↔ P) (h1 : P → WP g C S k t ls st σ Q) (h2 : ¬ P → WP g C S k (pc + 3) ls st σ Q) (ht : tR k pc = none := by rfl) : WP g C S k pc ls (.int y :: .int x :: st) σ Q := by
  by_cases hp : P
  · exact r_g hd (fun rec => by unfold ex; dsimp only; rw [hj]; dsimp only; rw [if_pos (hP.mpr hp)]) (h1 hp) rfl ht
  · exact r_g hd (fun rec => by unfold ex; dsimp only; rw [hj]; dsimp only; rw [if_neg (fun q => hp (hP.mp q))]; rfl) (h2 hp) rfl ht
theorem c_eq {x y : Int32} : cnd .eq x y = true ↔ x = y := decide_eq_true_iff
theorem c_ne {x y : Int32} : cnd .ne x y = true ↔ ¬ x = y := decide_eq_true_iff
theorem c_lt {x y : Int32} : cnd .lt x y = true ↔ x < y := decide_eq_true_iff
theorem c_ge {x y : Int32} : cnd .ge x y = true ↔ y ≤ x := decide_eq_true_iff
theorem c_gt {x y : Int32} : cnd .gt x y = true ↔ y < x := decide_eq_true_iff
theorem c_le {x y : Int32} : cnd .le x y = true ↔ x ≤ y := decide_eq_true_iff
theorem r_nullN {off : Int} {t : Nat} (hd : decode (mB k) pc = .ok (.ifnull off, 3)) (hj : jmp pc off = some t) (h : WP g C S k t ls st σ Q) (ht : tR k pc = none := by rfl) : WP g C S k pc ls (.null :: st) σ Q :=
  r_g hd (fun rec => by unfold ex; dsimp only; rw [hj]) h rfl ht
theorem r_nullR {off : Int} {a : Nat} (hd : decode (mB k) pc = .ok (.ifnull off, 3)) (h : WP g C S k (pc + 3) ls st σ Q) (ht : tR k pc = none := by rfl) : WP g C S k pc ls (.ref a :: st) σ Q :=
  r_g hd (fun rec => rfl) h rfl ht
theorem r_aeq {off : Int} {t a b : Nat} (hd : decode (mB k) pc = .ok (.if_acmp .eq off, 3)) (hj : jmp pc off = some t) (h1 : a = b → WP g C S k t ls st σ Q) (h2 : ¬ a = b → WP g C S k (pc + 3) ls st σ Q) (ht : tR k pc = none := by rfl) : WP g C S k pc ls (.ref b :: .ref a :: st) σ Q := by
  by_cases hp : a = b
  · exact r_g hd (fun rec => by unfold ex; dsimp only; rw [hj]; dsimp only [rOf]; rw [if_pos (by rw [hp])]) (h1 hp) rfl ht
  · exact r_g hd (fun rec => by unfold ex; dsimp only; rw [hj]; dsimp only [rOf]; rw [if_neg (fun q => hp (Option.some.inj q))]; rfl) (h2 hp) rfl ht
theorem r_ane {off : Int} {t a b : Nat} (hd : decode (mB k) pc = .ok (.if_acmp .ne off, 3)) (hj : jmp pc off = some t) (h1 : ¬ a = b → WP g C S k t ls st σ Q) (h2 : a = b → WP g C S k (pc + 3) ls st σ Q) (ht : tR k pc = none := by rfl) : WP g C S k pc ls (.ref b :: .ref a :: st) σ Q := by
  by_cases hp : a = b
  · exact r_g hd (fun rec => by unfold ex; dsimp only; rw [hj]; dsimp only [rOf]; rw [if_pos (by rw [hp])]; rfl) (h2 hp) rfl ht
  · exact r_g hd (fun rec => by unfold ex; dsimp only; rw [hj]; dsimp only [rOf]; rw [if_neg (fun q => hp (Option.some.inj q))]) (h1 hp) rfl ht
theorem r_div {x y : Int32} (hd : decode (mB k) pc = .ok (.idiv, 1)) (hy : ¬ y = 0) (h : WP g C S k (pc + 1) ls (.int (x / y) :: st) σ Q) (ht : tR k pc = none := by rfl) : WP g C S k pc ls (.int y :: .int x :: st) σ Q :=
  r_g hd (fun rec => by unfold ex; dsimp only; rw [if_neg hy]; rfl) h rfl ht
theorem r_rem {x y : Int32} (hd : decode (mB k) pc = .ok (.irem, 1)) (hy : ¬ y = 0) (h : WP g C S k (pc + 1) ls (.int (x - x / y * y) :: st) σ Q) (ht : tR k pc = none := by rfl) : WP g C S k pc ls (.int y :: .int x :: st) σ Q :=
  r_g hd (fun rec => by unfold ex; dsimp only; rw [if_neg hy]; rfl) h rfl ht
theorem r_ldiv {x y : Int64} (hd : decode (mB k) pc = .ok (.ldiv, 1)) (hy : ¬ y = 0) (h : WP g C S k (pc + 1) ls (.long (x / y) :: st) σ Q) (ht : tR k pc = none := by rfl) : WP g C S k pc ls (.long y :: .long x :: st) σ Q :=
  r_g hd (fun rec => by unfold ex; dsimp only; rw [if_neg hy]; rfl) h rfl ht
theorem r_lrem {x y : Int64} (hd : decode (mB k) pc = .ok (.lrem, 1)) (hy : ¬ y = 0) (h : WP g C S k (pc + 1) ls (.long (x - x / y * y) :: st) σ Q) (ht : tR k pc = none := by rfl) : WP g C S k pc ls (.long y :: .long x :: st) σ Q :=
  r_g hd (fun rec => by unfold ex; dsimp only; rw [if_neg hy]; rfl) h rfl ht
/-! fields -/
theorem kOK_of {c κ : Nat} (hc : c ≤ 8) (h : κ = c + 1) : kOK c κ = true := by
  unfold kOK
  simp [hc, h]
theorem r_getI {i c j a : Nat} (hd : decode (mB k) pc = .ok (.getfield i, 3)) (hf : fR (mO k) i = some (c, j)) (hc : c ≤ 8) (hb : fB c j = false) (hK : zK σ a = c + 1) (h : WP g C S k (pc + 3) ls (.int (zI σ a j) :: st) σ Q) (ht : tR k pc = none := by rfl) : WP g C S k pc ls (.ref a :: st) σ Q :=
  r_g hd (fun rec => by unfold ex; dsimp only; unfold getX; rw [hf]; dsimp only; rw [if_pos (kOK_of hc hK), fldV_eq hc, hb]; rfl) h rfl ht
theorem r_getP {i c j a b : Nat} (hd : decode (mB k) pc = .ok (.getfield i, 3)) (hf : fR (mO k) i = some (c, j)) (hc : c ≤ 8) (hb : fB c j = true) (hK : zK σ a = c + 1) (hP : zP σ a j = some b) (h : WP g C S k (pc + 3) ls (.ref b :: st) σ Q) (ht : tR k pc = none := by rfl) : WP g C S k pc ls (.ref a :: st) σ Q :=
  r_g hd (fun rec => by unfold ex; dsimp only; unfold getX; rw [hf]; dsimp only; rw [if_pos (kOK_of hc hK), fldV_eq hc, hb, hP]; rfl) h rfl ht
theorem r_getN {i c j a : Nat} (hd : decode (mB k) pc = .ok (.getfield i, 3)) (hf : fR (mO k) i = some (c, j)) (hc : c ≤ 8) (hb : fB c j = true) (hK : zK σ a = c + 1) (hP : zP σ a j = none) (h : WP g C S k (pc + 3) ls (.null :: st) σ Q) (ht : tR k pc = none := by rfl) : WP g C S k pc ls (.ref a :: st) σ Q :=
  r_g hd (fun rec => by unfold ex; dsimp only; unfold getX; rw [hf]; dsimp only; rw [if_pos (kOK_of hc hK), fldV_eq hc, hb, hP]; rfl) h rfl ht
theorem r_getV {i a b : Nat} (hd : decode (mB k) pc = .ok (.getfield i, 3)) (hf : fR (mO k) i = some (9, 0)) (hK : zK σ a = 1000) (hP : zP σ a 0 = some b) (h : WP g C S k (pc + 3) ls (.ref b :: st) σ Q) (ht : tR k pc = none := by rfl) : WP g C S k pc ls (.ref a :: st) σ Q :=
  r_g hd (fun rec => by unfold ex; dsimp only; unfold getX; rw [hf]; dsimp only; rw [hK, if_pos (by decide)]; unfold fldV; rw [if_pos (Or.inr ⟨rfl, rfl⟩), hP]; rfl) h rfl ht
theorem r_getD {i a : Nat} (hd : decode (mB k) pc = .ok (.getfield i, 3)) (hf : fR (mO k) i = some (9, 1)) (hK : zK σ a = 1000) (h : WP g C S k (pc + 3) ls (.int (zI σ a 1) :: st) σ Q) (ht : tR k pc = none := by rfl) : WP g C S k pc ls (.ref a :: st) σ Q :=
  r_g hd (fun rec => by unfold ex; dsimp only; unfold getX; rw [hf]; dsimp only; rw [hK, if_pos (by decide)]; unfold fldV; rw [if_neg (by decide)]; rfl) h rfl ht
theorem r_putI {i c j a : Nat} {x : Int32} (hd : decode (mB k) pc = .ok (.putfield i, 3)) (hf : fR (mO k) i = some (c, j)) (hc : c ≤ 8) (hF : fF c j = false ∨ (mI k = true ∧ mO k = c)) (hb : fB c j = false) (hz : fZ c j = false ∨ x = 0 ∨ x = 1) (hK : zK σ a = c + 1) (h : WP g C S k (pc + 3) ls st (stI σ a j x) Q) (ht : tR k pc = none := by rfl) : WP g C S k pc ls (.int x :: .ref a :: st) σ Q :=
  r_go hd (fun rec => by unfold ex; dsimp only; unfold putX; rw [hf]; dsimp only; rw [if_pos ⟨hc, hK, hF⟩, if_neg (by rw [hb]; decide), if_pos hz]; rfl) zOK_stI h rfl ht
theorem r_putP {i c j a b : Nat} (hd : decode (mB k) pc = .ok (.putfield i, 3)) (hf : fR (mO k) i = some (c, j)) (hc : c ≤ 8) (hF : fF c j = false ∨ (mI k = true ∧ mO k = c)) (hb : fB c j = true) (hK : zK σ a = c + 1) (h : WP g C S k (pc + 3) ls st (stP σ a j (some b)) Q) (ht : tR k pc = none := by rfl) : WP g C S k pc ls (.ref b :: .ref a :: st) σ Q :=
  r_go hd (fun rec => by unfold ex; dsimp only; unfold putX; rw [hf]; dsimp only; rw [if_pos ⟨hc, hK, hF⟩, if_pos hb]; rfl) zOK_stP h rfl ht
theorem r_putN {i c j a : Nat} (hd : decode (mB k) pc = .ok (.putfield i, 3)) (hf : fR (mO k) i = some (c, j)) (hc : c ≤ 8) (hF : fF c j = false ∨ (mI k = true ∧ mO k = c)) (hb : fB c j = true) (hK : zK σ a = c + 1) (h : WP g C S k (pc + 3) ls st (stP σ a j none) Q) (ht : tR k pc = none := by rfl) : WP g C S k pc ls (.null :: .ref a :: st) σ Q :=
  r_go hd (fun rec => by unfold ex; dsimp only; unfold putX; rw [hf]; dsimp only; rw [if_pos ⟨hc, hK, hF⟩, if_pos hb]; rfl) zOK_stP h rfl ht
theorem r_gets {i j : Nat} {v : Value} (hd : decode (mB k) pc = .ok (.getstatic i, 3)) (hs : sR (mO k) i = some j) (hv : stO g j = some v) (h : WP g C S k (pc + 3) ls (v :: st) σ Q) (ht : tR k pc = none := by rfl) : WP g C S k pc ls st σ Q :=
  r_g hd (fun rec => by unfold ex; dsimp only; rw [hs]; dsimp only; rw [hv]; rfl) h rfl ht
/-! arrays -/
theorem nI_lt0 {n : Nat} (h : n < 2147483648) : ¬ nI n < 0 ∧ (nI n).toNatClampNeg = n := ⟨nI_pos h, nI_clamp h⟩
theorem r_iald {a n : Nat} {j : Int32} (hd : decode (mB k) pc = .ok (.iaload, 1)) (hj : j = nI n) (hn : n < 2147483648) (hK : zK σ a = 101 ∨ zK σ a = 1002) (hl : n < zL σ a) (h : WP g C S k (pc + 1) ls (.int (zI σ a n) :: st) σ Q) (ht : tR k pc = none := by rfl) : WP g C S k pc ls (.int j :: .ref a :: st) σ Q := by
  subst hj
  obtain ⟨h0, h1⟩ := nI_lt0 hn
  exact r_g hd (fun rec => by unfold ex; dsimp only; rw [if_pos ⟨hK, h0, by rw [h1]; exact hl⟩, h1]; rfl) h rfl ht
theorem r_cald {a n : Nat} {j : Int32} (hd : decode (mB k) pc = .ok (.caload, 1)) (hj : j = nI n) (hn : n < 2147483648) (hK : zK σ a = 102) (hl : n < zL σ a) (h : WP g C S k (pc + 1) ls (.int (zI σ a n) :: st) σ Q) (ht : tR k pc = none := by rfl) : WP g C S k pc ls (.int j :: .ref a :: st) σ Q := by
  subst hj
  obtain ⟨h0, h1⟩ := nI_lt0 hn
  exact r_g hd (fun rec => by unfold ex; dsimp only; rw [if_pos ⟨hK, h0, by rw [h1]; exact hl⟩, h1]; rfl) h rfl ht
theorem r_bald {a n : Nat} {j : Int32} (hd : decode (mB k) pc = .ok (.baload, 1)) (hj : j = nI n) (hn : n < 2147483648) (hK : zK σ a = 1001) (hl : n < zL σ a) (h : WP g C S k (pc + 1) ls (.int (zI σ a n) :: st) σ Q) (ht : tR k pc = none := by rfl) : WP g C S k pc ls (.int j :: .ref a :: st) σ Q := by
  subst hj
  obtain ⟨h0, h1⟩ := nI_lt0 hn
  exact r_g hd (fun rec => by unfold ex; dsimp only; rw [if_pos ⟨hK, h0, by rw [h1]; exact hl⟩, h1]; rfl) h rfl ht
theorem r_aald {a b n : Nat} {j : Int32} (hd : decode (mB k) pc = .ok (.aaload, 1)) (hj : j = nI n) (hn : n < 2147483648) (hK : zK σ a = 103 ∨ zK σ a = 104) (hl : n < zL σ a) (hP : zP σ a n = some b) (h : WP g C S k (pc + 1) ls (.ref b :: st) σ Q) (ht : tR k pc = none := by rfl) : WP g C S k pc ls (.int j :: .ref a :: st) σ Q := by
  subst hj
  obtain ⟨h0, h1⟩ := nI_lt0 hn
  exact r_g hd (fun rec => by unfold ex; dsimp only; rw [if_pos ⟨hK, h0, by rw [h1]; exact hl⟩, h1, hP]; rfl) h rfl ht
theorem r_iast {a n : Nat} {j x : Int32} (hd : decode (mB k) pc = .ok (.iastore, 1)) (hj : j = nI n) (hn : n < 2147483648) (hK : zK σ a = 101) (hl : n < zL σ a) (h : WP g C S k (pc + 1) ls st (stI σ a n x) Q) (ht : tR k pc = none := by rfl) : WP g C S k pc ls (.int x :: .int j :: .ref a :: st) σ Q := by
  subst hj
  obtain ⟨h0, h1⟩ := nI_lt0 hn
  exact r_go hd (fun rec => by unfold ex; dsimp only; rw [if_pos ⟨hK, h0, by rw [h1]; exact hl⟩, h1]; rfl) zOK_stI h rfl ht
theorem r_cast {a n : Nat} {j x : Int32} (hd : decode (mB k) pc = .ok (.castore, 1)) (hj : j = nI n) (hn : n < 2147483648) (hK : zK σ a = 102) (hl : n < zL σ a) (h : WP g C S k (pc + 1) ls st (stI σ a n (vp_nar .char x)) Q) (ht : tR k pc = none := by rfl) : WP g C S k pc ls (.int x :: .int j :: .ref a :: st) σ Q := by
  subst hj
  obtain ⟨h0, h1⟩ := nI_lt0 hn
  exact r_go hd (fun rec => by unfold ex; dsimp only; rw [if_pos ⟨hK, h0, by rw [h1]; exact hl⟩, h1]; rfl) zOK_stI h rfl ht
theorem r_aast {a b n : Nat} {j : Int32} (hd : decode (mB k) pc = .ok (.aastore, 1)) (hj : j = nI n) (hn : n < 2147483648) (hK : (zK σ a = 103 ∧ zK σ b = 7) ∨ (zK σ a = 104 ∧ 1 ≤ zK σ b ∧ zK σ b ≤ 9)) (hl : n < zL σ a) (h : WP g C S k (pc + 1) ls st (stP σ a n (some b)) Q) (ht : tR k pc = none := by rfl) : WP g C S k pc ls (.ref b :: .int j :: .ref a :: st) σ Q := by
  subst hj
  obtain ⟨h0, h1⟩ := nI_lt0 hn
  exact r_go hd (fun rec => by unfold ex; dsimp only; rw [if_pos ⟨hK.imp id (fun q => ⟨q.1, by simp [okP, q.2]⟩), h0, by rw [h1]; exact hl⟩, h1]; rfl) zOK_stP h rfl ht
theorem r_alen {a : Nat} (hd : decode (mB k) pc = .ok (.arraylength, 1)) (hK : (101 ≤ zK σ a ∧ zK σ a ≤ 104) ∨ zK σ a = 1001 ∨ zK σ a = 1003) (h : WP g C S k (pc + 1) ls (.int (nI (zL σ a)) :: st) σ Q) (ht : tR k pc = none := by rfl) : WP g C S k pc ls (.ref a :: st) σ Q :=
  r_g hd (fun rec => by unfold ex; dsimp only; rw [if_pos hK]; rfl) h rfl ht
theorem r_new {i c N : Nat} (hd : decode (mB k) pc = .ok (.new i, 3)) (hk : kR (mO k) i = some c) (hc : c ≤ 8) (hN : fN c = N) (h1 : zN σ + 1 ≤ C) (h2 : zS σ + N ≤ S) (h : WP g C S k (pc + 3) ls (.ref (zN σ) :: st) (alO σ (c + 1) N) Q) (ht : tR k pc = none := by rfl) : WP g C S k pc ls st σ Q := by
  subst hN
  exact r_go hd (fun rec => by unfold ex; dsimp only; rw [hk]; dsimp only; rw [if_pos ⟨hc, h1, h2⟩]; rfl) zOK_alO h rfl ht
theorem r_newI {n : Nat} {j : Int32} (hd : decode (mB k) pc = .ok (.newarray .int, 2)) (hj : j = nI n) (hn : n ≤ 100000) (h1 : zN σ + 1 ≤ C) (h2 : zS σ + n ≤ S) (h : WP g C S k (pc + 2) ls (.ref (zN σ) :: st) (alA σ 101 n) Q) (ht : tR k pc = none := by rfl) : WP g C S k pc ls (.int j :: st) σ Q := by
  subst hj
  obtain ⟨h0, e⟩ := nI_lt0 (n := n) (by omega)
  exact r_go hd (fun rec => by unfold ex; dsimp only; rw [e, if_pos ⟨h0, hn, h1, h2⟩]; rfl) zOK_alA h rfl ht
theorem r_newC {n : Nat} {j : Int32} (hd : decode (mB k) pc = .ok (.newarray .char, 2)) (hj : j = nI n) (hn : n ≤ 100000) (h1 : zN σ + 1 ≤ C) (h2 : zS σ + n ≤ S) (h : WP g C S k (pc + 2) ls (.ref (zN σ) :: st) (alA σ 102 n) Q) (ht : tR k pc = none := by rfl) : WP g C S k pc ls (.int j :: st) σ Q := by
  subst hj
  obtain ⟨h0, e⟩ := nI_lt0 (n := n) (by omega)
  exact r_go hd (fun rec => by unfold ex; dsimp only; rw [e, if_pos ⟨h0, hn, h1, h2⟩]; rfl) zOK_alA h rfl ht
theorem r_anew {i c κ n : Nat} {j : Int32} (hd : decode (mB k) pc = .ok (.anewarray i, 3)) (hk : kR (mO k) i = some c) (hc : c = 6 ∨ c = 104) (hκ : (if c = 6 then 103 else 104) = κ) (hj : j = nI n) (hn : n ≤ 100000) (h1 : zN σ + 1 ≤ C) (h2 : zS σ + n ≤ S) (h : WP g C S k (pc + 3) ls (.ref (zN σ) :: st) (alA σ κ n) Q) (ht : tR k pc = none := by rfl) : WP g C S k pc ls (.int j :: st) σ Q := by
  subst hj hκ
  obtain ⟨h0, e⟩ := nI_lt0 (n := n) (by omega)
  exact r_go hd (fun rec => by unfold ex; dsimp only; rw [hk]; dsimp only; rw [e, if_pos ⟨hc, h0, hn, h1, h2⟩]; rfl) zOK_alA h rfl ht
theorem r_chk {i c a : Nat} (hd : decode (mB k) pc = .ok (.checkcast i, 3)) (hk : kR (mO k) i = some c) (hc : (c ≤ 8 ∧ zK σ a = c + 1) ∨ (c = 204 ∧ zK σ a = 104)) (h : WP g C S k (pc + 3) ls (.ref a :: st) σ Q) (ht : tR k pc = none := by rfl) : WP g C S k pc ls (.ref a :: st) σ Q :=
  r_g hd (fun rec => by unfold ex; dsimp only; rw [hk]; dsimp only; rw [if_pos hc]; rfl) h rfl ht
theorem r_ldcS {i j : Nat} (hd : decode (mB k) pc = .ok (.ldc i, 2)) (hk : lS (mO k) i = some j) (h : WP g C S k (pc + 2) ls (.ref (g (100 + j)) :: st) σ Q) (ht : tR k pc = none := by rfl) : WP g C S k pc ls st σ Q :=
  r_g hd (fun rec => by unfold ex; dsimp only; rw [hk]; rfl) h rfl ht
theorem r_ldc2 {i : Nat} {v : Int64} (hd : decode (mB k) pc = .ok (.ldc2_w i, 3)) (hk : lL (mO k) i = some v) (h : WP g C S k (pc + 3) ls (.long v :: st) σ Q) (ht : tR k pc = none := by rfl) : WP g C S k pc ls st σ Q :=
  r_g hd (fun rec => by unfold ex; dsimp only; rw [hk]; rfl) h rfl ht
theorem r_oi {i a : Nat} (hd : decode (mB k) pc = .ok (.invokespecial i, 3)) (hk : cR (mO k) i = some 1000) (h1 : st.length ≤ 4 ∧ 1 ≤ mF k ∧ 20 ≤ mW k) (h : WP g C S k (pc + 3) ls st σ Q) (ht : tR k pc = none := by rfl) : WP g C S k pc ls (.ref a :: st) σ Q :=
  r_g hd (fun rec => by unfold ex; dsimp only; unfold calX; rw [hk]; dsimp only; rw [if_pos (by decide)]; rw [calS_oi, if_pos h1]; rfl) h rfl ht
theorem r_max {i : Nat} {x y : Int32} (hd : decode (mB k) pc = .ok (.invokestatic i, 3)) (hk : cR (mO k) i = some 1002) (h1 : st.length ≤ 4 ∧ 1 ≤ mF k ∧ 21 ≤ mW k) (h : WP g C S k (pc + 3) ls (.int (if x < y then y else x) :: st) σ Q) (ht : tR k pc = none := by rfl) : WP g C S k pc ls (.int y :: .int x :: st) σ Q :=
  r_g hd (fun rec => by unfold ex; dsimp only; unfold calX; rw [hk]; dsimp only; rw [if_pos (by decide)]; rw [calS_mx, if_pos h1]; rfl) h rfl ht
theorem r_min {i : Nat} {x y : Int32} (hd : decode (mB k) pc = .ok (.invokestatic i, 3)) (hk : cR (mO k) i = some 1003) (h1 : st.length ≤ 4 ∧ 1 ≤ mF k ∧ 21 ≤ mW k) (h : WP g C S k (pc + 3) ls (.int (if y < x then y else x) :: st) σ Q) (ht : tR k pc = none := by rfl) : WP g C S k pc ls (.int y :: .int x :: st) σ Q :=
  r_g hd (fun rec => by unfold ex; dsimp only; unfold calX; rw [hk]; dsimp only; rw [if_pos (by decide)]; rw [calS_mn, if_pos h1]; rfl) h rfl ht
theorem r_getC {i a : Nat} (hd : decode (mB k) pc = .ok (.invokevirtual i, 3)) (hk : cR (mO k) i = some 1004) (h1 : st.length ≤ 4 ∧ 1 ≤ mF k ∧ 22 ≤ mW k) (hK : zK σ a = 104) (h : WP g C S k (pc + 3) ls (.ref (g 7) :: st) σ Q) (ht : tR k pc = none := by rfl) : WP g C S k pc ls (.ref a :: st) σ Q :=
  r_g hd (fun rec => by unfold ex; dsimp only; unfold calX; rw [hk]; dsimp only; rw [if_pos (by decide)]; rw [calS_gc, if_pos ⟨h1.1, h1.2.1, h1.2.2, hK⟩]; rfl) h rfl ht
theorem r_copI {i a b sp dp n : Nat} {jn jd js : Int32} (hd : decode (mB k) pc = .ok (.invokestatic i, 3)) (hk : cR (mO k) i = some 1001) (h1 : st.length ≤ 4 ∧ 1 ≤ mF k ∧ 60 ≤ mW k) (e1 : jn = nI n) (e2 : jd = nI dp) (e3 : js = nI sp) (e4 : sp + n ≤ zL σ a) (e5 : dp + n ≤ zL σ b) (e6 : zL σ a < 2147483648 ∧ zL σ b < 2147483648) (e7 : ¬ a = b) (ka : zK σ a = 102) (kb : zK σ b = 102) (hn : ∀ i, i < n → narrow .char (.int (zI σ a (sp + i))) = .int (zI σ a (sp + i)))
    (h : WP g C S k (pc + 3) ls st (cpI σ a sp b dp n) Q) (ht : tR k pc = none := by rfl) : WP g C S k pc ls (.int jn :: .int jd :: .ref b :: .int js :: .ref a :: st) σ Q := by
  subst e1 e2 e3
  obtain ⟨z1, z2⟩ := nI_lt0 (n := n) (by omega)
  obtain ⟨z3, z4⟩ := nI_lt0 (n := dp) (by omega)
  obtain ⟨z5, z6⟩ := nI_lt0 (n := sp) (by omega)
  exact r_go hd (fun rec => by unfold ex; dsimp only; unfold calX; rw [hk]; dsimp only; rw [if_pos (by decide)]; rw [calS_cp, if_pos ⟨h1.1, h1.2.1, h1.2.2, z5, z3, z1⟩]; unfold calA; rw [z2, z4, z6, if_pos ⟨e4, e5, e7⟩, if_pos ⟨ka, kb, hn⟩]; rfl) zOK_cpI h rfl ht
theorem r_copP {i a b sp dp n : Nat} {jn jd js : Int32} (hd : decode (mB k) pc = .ok (.invokestatic i, 3)) (hk : cR (mO k) i = some 1001) (h1 : st.length ≤ 4 ∧ 1 ≤ mF k ∧ 60 ≤ mW k) (e1 : jn = nI n) (e2 : jd = nI dp) (e3 : js = nI sp) (e4 : sp + n ≤ zL σ a) (e5 : dp + n ≤ zL σ b) (e6 : zL σ a < 2147483648 ∧ zL σ b < 2147483648) (e7 : ¬ a = b) (ka : zK σ a = 104) (kb : zK σ b = 104) (hn : ∀ i, i < n → okP σ (zP σ a (sp + i)) = true)
    (h : WP g C S k (pc + 3) ls st (cpP σ a sp b dp n) Q) (ht : tR k pc = none := by rfl) : WP g C S k pc ls (.int jn :: .int jd :: .ref b :: .int js :: .ref a :: st) σ Q := by
  subst e1 e2 e3
  obtain ⟨z1, z2⟩ := nI_lt0 (n := n) (by omega)
  obtain ⟨z3, z4⟩ := nI_lt0 (n := dp) (by omega)
  obtain ⟨z5, z6⟩ := nI_lt0 (n := sp) (by omega)
  exact r_go hd (fun rec => by unfold ex; dsimp only; unfold calX; rw [hk]; dsimp only; rw [if_pos (by decide)]; rw [calS_cp, if_pos ⟨h1.1, h1.2.1, h1.2.2, z5, z3, z1⟩]; unfold calA; rw [z2, z4, z6, if_pos ⟨e4, e5, e7⟩, if_neg (by intro q; omega), if_pos ⟨ka, kb, hn⟩]; rfl) zOK_cpP h rfl ht
theorem r_ret {x : Int32} (hd : decode (mB k) pc = .ok (.ireturn, 1)) (hn : nOK (mR k) x = true) (h : Q (Sum.inl (some (.int x))) σ) (ht : tR k pc = none := by rfl) : WP g C S k pc ls [.int x] σ Q :=
  r_end hd (fun rec => by unfold ex; dsimp only; rw [if_pos hn]) h rfl ht
theorem r_aret {a : Nat} (hd : decode (mB k) pc = .ok (.areturn, 1)) (hn : aOK (mR k) = true) (h : Q (Sum.inl (some (.ref a))) σ) (ht : tR k pc = none := by rfl) : WP g C S k pc ls [.ref a] σ Q :=
  r_end hd (fun rec => by unfold ex; dsimp only [rOf]; rw [if_pos hn]; rfl) h rfl ht
theorem r_vret (hd : decode (mB k) pc = .ok (.return_, 1)) (hn : mR k = none) (h : Q (Sum.inl none) σ) (ht : tR k pc = none := by rfl) : WP g C S k pc ls [] σ Q :=
  r_end hd (fun rec => by unfold ex; dsimp only; rw [if_pos hn]) h rfl ht
theorem ex_calV {rec : Nat → Nat → LV → List Value → PS → Option (Rs × PS)} {i k2 : Nat} (hk : cR (mO k) i = some k2) (h : ¬ 1000 ≤ k2) : ex g C S rec k pc (ilen (.invokevirtual i)) ls st σ (.invokevirtual i) = calM rec k pc (ilen (.invokevirtual i)) ls st σ k2 0 := by
  unfold ex; dsimp only; unfold calX; rw [hk]; dsimp only; rw [if_neg h]
theorem ex_calI {rec : Nat → Nat → LV → List Value → PS → Option (Rs × PS)} {i k2 : Nat} (hk : cR (mO k) i = some k2) (h : ¬ 1000 ≤ k2) : ex g C S rec k pc (ilen (.invokespecial i)) ls st σ (.invokespecial i) = calM rec k pc (ilen (.invokespecial i)) ls st σ k2 1 := by
  unfold ex; dsimp only; unfold calX; rw [hk]; dsimp only; rw [if_neg h]
theorem ex_calS {rec : Nat → Nat → LV → List Value → PS → Option (Rs × PS)} {i k2 : Nat} (hk : cR (mO k) i = some k2) (h : ¬ 1000 ≤ k2) : ex g C S rec k pc (ilen (.invokestatic i)) ls st σ (.invokestatic i) = calM rec k pc (ilen (.invokestatic i)) ls st σ k2 2 := by
  unfold ex; dsimp only; unfold calX; rw [hk]; dsimp only; rw [if_neg h]
end Rules
