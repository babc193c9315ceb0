/-! THE REFERENCE'S LEVEL: its object m with its arrays A j; a state v gives field j (an int: place 0) its integers -/
abbrev VS : Type := Nat → Int → Int
def uv (v : VS) (j : Nat) (x z : Int) : VS := fun j' x' => if j' = j ∧ x' = x then z else v j' x'
def rl : Nat → Nat
  | 2 => 24
  | 3 => 24
  | 4 => 384
  | 5 => 192
  | 6 => 15360
  | 7 => 24
  | 10 => 24
  | 13 => 160
  | 14 => 2
  | 15 => 128
  | 16 => 128
  | 17 => 128
  | 18 => 128
  | 19 => 2
  | 20 => 1000
  | 22 => 1000
  | 26 => 24
  | 27 => 24
  | 28 => 24
  | 29 => 9600
  | 30 => 24
  | 31 => 24000
  | 33 => 96
  | 34 => 96
  | 36 => 1000
  | _ => 0
def VR (v : VS) : Prop := ∀ j x, -2147483648 ≤ v j x ∧ v j x ≤ 2147483647
def RI (m : Nat) (A : Nat → Nat) (σ : PS) (v : VS) : Prop :=
  (zK σ m = 9 ∧ ∀ j, rl j = 0 → zI σ m j = iI (v j 0)) ∧
  (∀ j, 0 < rl j → zP σ m j = some (A j) ∧ zK σ (A j) = 101 ∧ zL σ (A j) = rl j ∧ ∀ n : Nat, n < rl j → zI σ (A j) n = iI (v j n)) ∧
  (∀ j j', 0 < rl j → 0 < rl j' → A j = A j' → j = j')
def Fr (m : Nat) (A : Nat → Nat) (σ τ : PS) : Prop :=
  zN τ = zN σ ∧ zS τ = zS σ ∧ zK τ = zK σ ∧ zL τ = zL σ ∧ zP τ = zP σ ∧ ∀ a, ¬ a = m → (∀ j, 0 < rl j → ¬ a = A j) → zI τ a = zI σ a
theorem Fr.rfl {m : Nat} {A : Nat → Nat} {σ : PS} : Fr m A σ σ := ⟨by rfl, by rfl, by rfl, by rfl, by rfl, fun _ _ _ => by rfl⟩
theorem Fr.trans {m : Nat} {A : Nat → Nat} {σ τ ρ : PS} (h1 : Fr m A σ τ) (h2 : Fr m A τ ρ) : Fr m A σ ρ := by
  obtain ⟨a1, a2, a3, a4, a5, a6⟩ := h1
  obtain ⟨b1, b2, b3, b4, b5, b6⟩ := h2
  exact ⟨b1.trans a1, b2.trans a2, b3.trans a3, b4.trans a4, b5.trans a5, fun a q1 q2 => (b6 a q1 q2).trans (a6 a q1 q2)⟩
def RW (g : Nat → Nat) (C S m : Nat) (A : Nat → Nat) (k pc : Nat) (ls : LV) (st : List Value) (v : VS) (Q : Rs → VS → Prop) : Prop :=
  VR v → ∀ σ, RI m A σ v → WP g C S k pc ls st σ (fun r τ => ∃ w, VR w ∧ RI m A τ w ∧ Fr m A σ τ ∧ Q r w)
def VK (g : Nat → Nat) (C S m : Nat) (A : Nat → Nat) (k pc : Nat) (ls : LV) (st : List Value) (Q : Rs → VS → Prop) : Rs → VS → Prop := fun r w => match r with
  | Sum.inl z => RW g C S m A k pc ls (z.toList ++ st) w Q
  | Sum.inr _ => False
theorem VR_upd {v : VS} {j : Nat} {x z : Int} (h : VR v) (hz : -2147483648 ≤ z ∧ z ≤ 2147483647) : VR (uv v j x z) := by
  intro j' x'
  unfold uv
  split
  · exact hz
  · exact h j' x'
section RRules
variable {g : Nat → Nat} {C S m : Nat} {A : Nat → Nat} {k pc pc' : Nat} {ls : LV} {st : List Value} {v : VS} {Q : Rs → VS → Prop}
theorem qv_R (h : VR v → RW g C S m A k pc ls st v Q) : RW g C S m A k pc ls st v Q := fun hv => h hv hv
theorem RW.mono {Q' : Rs → VS → Prop} (h : RW g C S m A k pc ls st v Q) (hq : ∀ r w, VR w → Q r w → Q' r w) : RW g C S m A k pc ls st v Q' := fun hv σ hR =>
  WP.mono (h hv σ hR) (fun r τ _ ⟨w, a, b, c, d⟩ => ⟨w, a, b, c, hq r w a d⟩)
theorem qv_g {i : Instr} {len : Nat} {ls' : LV} {st' : List Value} (hd : decode (mB k) pc = .ok (i, len)) (hex : ∀ (σ : PS) (rec : Nat → Nat → LV → List Value → PS → Option (Rs × PS)), ex g C S rec k pc (ilen i) ls st σ i = rec k pc' ls' st' σ)
    (h : RW g C S m A k pc' ls' st' v Q) (hl : len = ilen i := by rfl) (ht : tR k pc = none := by rfl) : RW g C S m A k pc ls st v Q := fun hv σ hR => r_g hd (hex σ) (h hv σ hR) hl ht
theorem qv_ic {n : Int} (hd : decode (mB k) pc = .ok (.iconst n, 1)) (h : RW g C S m A k (pc + 1) ls (.int (iI n) :: st) v Q) (ht : tR k pc = none := by rfl) : RW g C S m A k pc ls st v Q :=
  fun hv σ hR => r_ic hd (by rfl) (h hv σ hR) ht
theorem qv_bi {n : Int} (hd : decode (mB k) pc = .ok (.bipush n, 2)) (hn : (Int8.ofInt n).toInt32 = iI n) (h : RW g C S m A k (pc + 2) ls (.int (iI n) :: st) v Q) (ht : tR k pc = none := by rfl) : RW g C S m A k pc ls st v Q :=
  fun hv σ hR => r_bi hd hn (h hv σ hR) ht
theorem qv_si {n : Int} (hd : decode (mB k) pc = .ok (.sipush n, 3)) (hn : (Int16.ofInt n).toInt32 = iI n) (h : RW g C S m A k (pc + 3) ls (.int (iI n) :: st) v Q) (ht : tR k pc = none := by rfl) : RW g C S m A k pc ls st v Q :=
  fun hv σ hR => r_si hd hn (h hv σ hR) ht
theorem qv_goto {off : Int} {t : Nat} (hd : decode (mB k) pc = .ok (.goto off, 3)) (hj : jmp pc off = some t) (h : RW g C S m A k t ls st v Q) (ht : tR k pc = none := by rfl) : RW g C S m A k pc ls st v Q :=
  fun hv σ hR => r_goto hd hj (h hv σ hR) ht
theorem qv_if {cd : Jvm.ClassFile.Cond} {off : Int} {t : Nat} {x : Int} {P : Prop} (hd : decode (mB k) pc = .ok (.ifCond cd off, 3)) (hj : jmp pc off = some t) (hP : cnd cd (iI x) (iI 0) = true ↔ P) (h1 : P → RW g C S m A k t ls st v Q) (h2 : ¬ P → RW g C S m A k (pc + 3) ls st v Q) (ht : tR k pc = none := by rfl) : RW g C S m A k pc ls (.int (iI x) :: st) v Q :=
  fun hv σ hR => r_if hd hj hP (fun p => h1 p hv σ hR) (fun p => h2 p hv σ hR) ht
theorem qv_icmp {cd : Jvm.ClassFile.Cond} {off : Int} {t : Nat} {x y : Int} {P : Prop} (hd : decode (mB k) pc = .ok (.if_icmp cd off, 3)) (hj : jmp pc off = some t) (hP : cnd cd (iI x) (iI y) = true ↔ P) (h1 : P → RW g C S m A k t ls st v Q) (h2 : ¬ P → RW g C S m A k (pc + 3) ls st v Q) (ht : tR k pc = none := by rfl) : RW g C S m A k pc ls (.int (iI y) :: .int (iI x) :: st) v Q :=
  fun hv σ hR => r_icmp hd hj hP (fun p => h1 p hv σ hR) (fun p => h2 p hv σ hR) ht
theorem qv_add {x y : Int} (hd : decode (mB k) pc = .ok (.iadd, 1)) (h : RW g C S m A k (pc + 1) ls (.int (iI (x + y)) :: st) v Q) (ht : tR k pc = none := by rfl) : RW g C S m A k pc ls (.int (iI y) :: .int (iI x) :: st) v Q :=
  qv_g hd (fun _ _ => by rw [← iI_add]; rfl) h rfl ht
theorem qv_sub {x y : Int} (hd : decode (mB k) pc = .ok (.isub, 1)) (h : RW g C S m A k (pc + 1) ls (.int (iI (x - y)) :: st) v Q) (ht : tR k pc = none := by rfl) : RW g C S m A k pc ls (.int (iI y) :: .int (iI x) :: st) v Q :=
  qv_g hd (fun _ _ => by rw [← iI_sub]; rfl) h rfl ht
theorem qv_mul {x y : Int} (hd : decode (mB k) pc = .ok (.imul, 1)) (h : RW g C S m A k (pc + 1) ls (.int (iI (x * y)) :: st) v Q) (ht : tR k pc = none := by rfl) : RW g C S m A k pc ls (.int (iI y) :: .int (iI x) :: st) v Q :=
  qv_g hd (fun _ _ => by rw [← iI_mul]; rfl) h rfl ht
theorem qv_and {x y z : Int} (hd : decode (mB k) pc = .ok (.iand, 1)) (hz : iI x &&& iI y = iI z) (h : RW g C S m A k (pc + 1) ls (.int (iI z) :: st) v Q) (ht : tR k pc = none := by rfl) : RW g C S m A k pc ls (.int (iI y) :: .int (iI x) :: st) v Q :=
  qv_g hd (fun _ _ => by rw [← hz]; rfl) h rfl ht
theorem qv_shr {x y : Int} (hd : decode (mB k) pc = .ok (.ishr, 1)) (hx : -2147483648 ≤ x ∧ x ≤ 2147483647) (hy : y = 0 ∨ y = 8 ∨ y = 16 ∨ y = 24) (h : RW g C S m A k (pc + 1) ls (.int (iI (x / 2 ^ y.toNat)) :: st) v Q) (ht : tR k pc = none := by rfl) : RW g C S m A k pc ls (.int (iI y) :: .int (iI x) :: st) v Q :=
  qv_g hd (fun _ _ => by rw [← iI_shr hx hy]; rfl) h rfl ht
theorem qv_div {x y : Int} (hd : decode (mB k) pc = .ok (.idiv, 1)) (hx : 0 ≤ x ∧ x ≤ 2147483647) (hy : 0 < y ∧ y ≤ 2147483647) (h : RW g C S m A k (pc + 1) ls (.int (iI (x / y)) :: st) v Q) (ht : tR k pc = none := by rfl) : RW g C S m A k pc ls (.int (iI y) :: .int (iI x) :: st) v Q :=
  fun hv σ hR => r_div hd (fun q => by have := (iI_eq (by omega) (by omega)).mp (q.trans (show (0 : Int32) = iI 0 from rfl)); omega) (by rw [iI_div hx hy]; exact h hv σ hR) ht
theorem qv_rem {x y : Int} (hd : decode (mB k) pc = .ok (.irem, 1)) (hx : 0 ≤ x ∧ x ≤ 2147483647) (hy : 0 < y ∧ y ≤ 2147483647) (h : RW g C S m A k (pc + 1) ls (.int (iI (x % y)) :: st) v Q) (ht : tR k pc = none := by rfl) : RW g C S m A k pc ls (.int (iI y) :: .int (iI x) :: st) v Q :=
  fun hv σ hR => r_rem hd (fun q => by have := (iI_eq (by omega) (by omega)).mp (q.trans (show (0 : Int32) = iI 0 from rfl)); omega) (by rw [iI_rem hx hy]; exact h hv σ hR) ht
theorem lI_n0 {y : Int} (hy : 0 < y ∧ y < 9223372036854775808) : ¬ lI y = 0 := fun q => by
  have h1 := lI_toInt (z := y) (by omega)
  rw [q] at h1
  have h2 : (0 : Int64).toInt = 0 := by decide
  omega
theorem qv_ldiv {x y : Int} (hd : decode (mB k) pc = .ok (.ldiv, 1)) (hx : 0 ≤ x ∧ x < 9223372036854775808) (hy : 0 < y ∧ y < 9223372036854775808) (h : RW g C S m A k (pc + 1) ls (.long (lI (x / y)) :: st) v Q) (ht : tR k pc = none := by rfl) : RW g C S m A k pc ls (.long (lI y) :: .long (lI x) :: st) v Q :=
  fun hv σ hR => r_ldiv hd (lI_n0 hy) (by rw [lI_div hx hy]; exact h hv σ hR) ht
theorem qv_lrem {x y : Int} (hd : decode (mB k) pc = .ok (.lrem, 1)) (hx : 0 ≤ x ∧ x < 9223372036854775808) (hy : 0 < y ∧ y < 9223372036854775808) (h : RW g C S m A k (pc + 1) ls (.long (lI (x % y)) :: st) v Q) (ht : tR k pc = none := by rfl) : RW g C S m A k pc ls (.long (lI y) :: .long (lI x) :: st) v Q :=
  fun hv σ hR => r_lrem hd (lI_n0 hy) (by rw [lI_rem hx hy]; exact h hv σ hR) ht
theorem qv_lcmp {x : Int} (hd : decode (mB k) pc = .ok (.lcmp, 1)) (hx : 0 ≤ x ∧ x < 9223372036854775808) (h : RW g C S m A k (pc + 1) ls (.int (iI (if x = 0 then 0 else 1)) :: st) v Q) (ht : tR k pc = none := by rfl) : RW g C S m A k pc ls (.long (lI 0) :: .long (lI x) :: st) v Q :=
  qv_g hd (fun _ _ => by rw [← lI_ne0 hx]; rfl) h rfl ht
theorem qv_l2i {x : Int} (hd : decode (mB k) pc = .ok (.l2i, 1)) (hx : 0 ≤ x ∧ x ≤ 2147483647) (h : RW g C S m A k (pc + 1) ls (.int (iI x) :: st) v Q) (ht : tR k pc = none := by rfl) : RW g C S m A k pc ls (.long (lI x) :: st) v Q :=
  qv_g hd (fun _ _ => by rw [← lI_l2i hx]; rfl) h rfl ht
theorem qv_ldc2 {i : Nat} {z : Int} (hd : decode (mB k) pc = .ok (.ldc2_w i, 3)) (hk : lL (mO k) i = some (lI z)) (h : RW g C S m A k (pc + 3) ls (.long (lI z) :: st) v Q) (ht : tR k pc = none := by rfl) : RW g C S m A k pc ls st v Q :=
  fun hv σ hR => r_ldc2 hd hk (h hv σ hR) ht
theorem qv_inc {i : Nat} {n x : Int} {ls' : LV} (hd : decode (mB k) pc = .ok (.iinc i n, 3)) (hx : ls[i]? = some (some (.int (iI x)))) (hi : i < ls.length) (hl : stl ls i (.int (iI (x + n))) = ls') (h : RW g C S m A k (pc + 3) ls' st v Q) (ht : tR k pc = none := by rfl) : RW g C S m A k pc ls st v Q :=
  fun hv σ hR => r_inc hd hx hi (show Int32.ofInt n = iI n from rfl) (by rw [iI_add]; exact hl) (h hv σ hR) ht
theorem qv_getI {i j : Nat} (hd : decode (mB k) pc = .ok (.getfield i, 3)) (hf : fR (mO k) i = some (8, j)) (hb : fB 8 j = false) (hj : rl j = 0) (h : RW g C S m A k (pc + 3) ls (.int (iI (v j 0)) :: st) v Q) (ht : tR k pc = none := by rfl) : RW g C S m A k pc ls (.ref m :: st) v Q :=
  fun hv σ hR => r_getI hd hf (by decide) hb hR.1.1 (by rw [hR.1.2 j hj]; exact h hv σ hR) ht
theorem qv_getA {i j : Nat} (hd : decode (mB k) pc = .ok (.getfield i, 3)) (hf : fR (mO k) i = some (8, j)) (hb : fB 8 j = true) (hj : 0 < rl j) (h : RW g C S m A k (pc + 3) ls (.ref (A j) :: st) v Q) (ht : tR k pc = none := by rfl) : RW g C S m A k pc ls (.ref m :: st) v Q :=
  fun hv σ hR => r_getP hd hf (by decide) hb hR.1.1 (hR.2.1 j hj).1 (h hv σ hR) ht
theorem RI_putI {σ : PS} {j : Nat} {z : Int} (hR : RI m A σ v) (hj : rl j = 0) : RI m A (stI σ m j (iI z)) (uv v j 0 z) := by
  obtain ⟨⟨h1, h2⟩, h3, h4⟩ := hR
  have hm : ∀ j, 0 < rl j → ¬ A j = m := fun j hj q => by have := (h3 j hj).2.1; rw [q, h1] at this; omega
  refine ⟨⟨h1, fun j' hj' => ?_⟩, fun j' hj' => ⟨(h3 j' hj').1, (h3 j' hj').2.1, (h3 j' hj').2.2.1, fun n hn => ?_⟩, h4⟩
  · show (if m = m ∧ j' = j then iI z else zI σ m j') = iI (if j' = j ∧ (0 : Int) = 0 then z else v j' 0)
    by_cases e : j' = j
    · rw [if_pos ⟨rfl, e⟩, if_pos ⟨e, rfl⟩]
    · rw [if_neg (fun q => e q.2), if_neg (fun q => e q.1)]
      exact h2 j' hj'
  · show (if A j' = m ∧ n = j then iI z else zI σ (A j') n) = iI (if j' = j ∧ (n : Int) = 0 then z else v j' n)
    rw [if_neg (fun q => hm j' hj' q.1), if_neg (fun q => by rw [q.1] at hj'; omega)]
    exact (h3 j' hj').2.2.2 n hn
theorem RI_iast {σ : PS} {j n : Nat} {z : Int} (hR : RI m A σ v) (hj : 0 < rl j) : RI m A (stI σ (A j) n (iI z)) (uv v j n z) := by
  obtain ⟨⟨h1, h2⟩, h3, h4⟩ := hR
  have hm : ∀ j, 0 < rl j → ¬ A j = m := fun j hj q => by have := (h3 j hj).2.1; rw [q, h1] at this; omega
  refine ⟨⟨h1, fun j' hj' => ?_⟩, fun j' hj' => ⟨(h3 j' hj').1, (h3 j' hj').2.1, (h3 j' hj').2.2.1, fun n' hn => ?_⟩, h4⟩
  · show (if m = A j ∧ j' = n then iI z else zI σ m j') = iI (if j' = j ∧ (0 : Int) = n then z else v j' 0)
    rw [if_neg (fun q => hm j hj q.1.symm), if_neg (fun q => by rw [q.1] at hj'; omega)]
    exact h2 j' hj'
  · show (if A j' = A j ∧ n' = n then iI z else zI σ (A j') n') = iI (if j' = j ∧ (n' : Int) = n then z else v j' n')
    by_cases e : j' = j ∧ n' = n
    · rw [if_pos ⟨by rw [e.1], e.2⟩, if_pos ⟨e.1, by rw [e.2]⟩]
    · rw [if_neg (fun q => e ⟨h4 _ _ hj' hj q.1, q.2⟩), if_neg (fun q => e ⟨q.1, by omega⟩)]
      exact (h3 j' hj').2.2.2 n' hn
theorem Fr_m {σ : PS} {j : Nat} {x : Int32} : Fr m A σ (stI σ m j x) := by
  refine ⟨rfl, rfl, rfl, rfl, rfl, fun a q1 q2 => funext fun i => ?_⟩
  show (if a = m ∧ i = j then x else zI σ a i) = _
  rw [if_neg (fun q => q1 q.1)]
theorem Fr_A {σ : PS} {j n : Nat} {x : Int32} (hj : 0 < rl j) : Fr m A σ (stI σ (A j) n x) := by
  refine ⟨rfl, rfl, rfl, rfl, rfl, fun a q1 q2 => funext fun i => ?_⟩
  show (if a = A j ∧ i = n then x else zI σ a i) = _
  rw [if_neg (fun q => q2 j hj q.1)]
theorem RW.at {w : VS} {σ τ : PS} (h : RW g C S m A k pc ls st w Q) (hv : VR w) (hR : RI m A τ w) (hF : Fr m A σ τ) : WP g C S k pc ls st τ (fun r ρ => ∃ w, VR w ∧ RI m A ρ w ∧ Fr m A σ ρ ∧ Q r w) :=
  WP.mono (h hv τ hR) (fun _ _ _ ⟨w, a, b, c, d⟩ => ⟨w, a, b, hF.trans c, d⟩)
theorem qv_putI {i j : Nat} {z : Int} (hd : decode (mB k) pc = .ok (.putfield i, 3)) (hf : fR (mO k) i = some (8, j)) (hb : fB 8 j = false) (hF : fF 8 j = false ∨ (mI k = true ∧ mO k = 8)) (hj : rl j = 0) (hz : fZ 8 j = false ∨ z = 0 ∨ z = 1) (hr : -2147483648 ≤ z ∧ z ≤ 2147483647) (h : RW g C S m A k (pc + 3) ls st (uv v j 0 z) Q) (ht : tR k pc = none := by rfl) : RW g C S m A k pc ls (.int (iI z) :: .ref m :: st) v Q :=
  fun hv σ hR => r_putI hd hf (by decide) hF hb (hz.imp id (fun q => q.imp (fun e => by rw [e]; rfl) (fun e => by rw [e]; rfl))) hR.1.1 (RW.at h (VR_upd hv hr) (RI_putI hR hj) Fr_m) ht
theorem qv_iald {j : Nat} {x : Int} (hd : decode (mB k) pc = .ok (.iaload, 1)) (hj : 0 < rl j) (hx : 0 ≤ x ∧ x < rl j) (hL : rl j ≤ 100000) (h : RW g C S m A k (pc + 1) ls (.int (iI (v j x)) :: st) v Q) (ht : tR k pc = none := by rfl) : RW g C S m A k pc ls (.int (iI x) :: .ref (A j) :: st) v Q :=
  fun hv σ hR => by
    obtain ⟨-, e2, e3, e4⟩ := hR.2.1 j hj
    refine r_iald (n := x.toNat) hd (iI_tn hx.1) (by omega) (Or.inl e2) (by omega) ?_ ht
    rw [e4 _ (by omega), Int.toNat_of_nonneg hx.1]
    exact h hv σ hR
theorem qv_iast {j : Nat} {x z : Int} (hd : decode (mB k) pc = .ok (.iastore, 1)) (hj : 0 < rl j) (hx : 0 ≤ x ∧ x < rl j) (hL : rl j ≤ 100000) (hr : -2147483648 ≤ z ∧ z ≤ 2147483647) (h : RW g C S m A k (pc + 1) ls st (uv v j x z) Q) (ht : tR k pc = none := by rfl) : RW g C S m A k pc ls (.int (iI z) :: .int (iI x) :: .ref (A j) :: st) v Q :=
  fun hv σ hR => by
    obtain ⟨-, e2, e3, e4⟩ := hR.2.1 j hj
    refine r_iast (n := x.toNat) hd (iI_tn hx.1) (by omega) e2 (by omega) ?_ ht
    have hi := RI_iast (n := x.toNat) (z := z) hR hj
    rw [Int.toNat_of_nonneg hx.1] at hi
    exact RW.at h (VR_upd hv hr) hi (Fr_A hj)
theorem qv_ret {x : Int} (hd : decode (mB k) pc = .ok (.ireturn, 1)) (hn : nOK (mR k) (iI x) = true) (h : Q (Sum.inl (some (.int (iI x)))) v) (ht : tR k pc = none := by rfl) : RW g C S m A k pc ls [.int (iI x)] v Q :=
  fun hv σ hR => r_ret hd hn ⟨v, hv, hR, Fr.rfl, h⟩ ht
theorem qv_vret (hd : decode (mB k) pc = .ok (.return_, 1)) (hn : mR k = none) (h : Q (Sum.inl none) v) (ht : tR k pc = none := by rfl) : RW g C S m A k pc ls [] v Q :=
  fun hv σ hR => r_vret hd hn ⟨v, hv, hR, Fr.rfl, h⟩ ht
theorem qv_call {i : Instr} {len k2 op : Nat} {rest : List Value} {ls2 : LV} (hd : decode (mB k) pc = .ok (i, len)) (hex : ∀ (σ : PS) (rec : Nat → Nat → LV → List Value → PS → Option (Rs × PS)), ex g C S rec k pc (ilen i) ls st σ i = calM rec k pc (ilen i) ls st σ k2 op)
    (h1 : rmOK k k2 = true) (h2 : mA k2 ≤ st.length) (h3 : (st.drop (mA k2)).length ≤ 4) (h4 : (ent (st.take (mA k2)).reverse).length ≤ mL k2) (h5 : ∀ σ, zK σ m = 9 → rcv σ op k2 (st.take (mA k2)).reverse = true) (h6 : entL (st.take (mA k2)).reverse (mL k2) = ls2) (h7 : st.drop (mA k2) = rest) (h8 : pc + ilen i = pc')
    (h : RW g C S m A k2 0 ls2 [] v (VK g C S m A k pc' ls rest Q)) (hl : len = ilen i := by rfl) (ht : tR k pc = none := by rfl) : RW g C S m A k pc ls st v Q := fun hv σ hR => by
  refine r_call (th := false) hd (hex σ) h1 h2 h3 h4 (h5 σ hR.1.1) h6 h7 h8 (fun q => nomatch q) ?_ hl ht
  refine WP.mono (h hv σ hR) (fun r τ _ ⟨w, a, b, c, d⟩ => ?_)
  cases r with
  | inl z => exact RW.at d a b c
  | inr j => exact d.elim
end RRules
