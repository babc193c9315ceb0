section CNew
variable {g : Nat → Nat} {B : Nat} {O : Nat → Prop} {σ τ : PS} {c : CS} {Q : Rs → CS → Prop}
/-- a new Text or list at the heap's end -/
theorem CI_newX {κ cost : Nat} (h : CI g O σ c) (hz : zOK σ) (hN : zN σ < zN τ) (hs : ∀ x, x < zN σ → Sm σ τ x) (hK : zK τ (zN σ) = κ) (hκ : κ = 7 ∨ κ = 1) (h7 : κ = 7 → TxR O τ (wN c (zN σ) κ 0 cost) (zN σ) [] ∧ ∃ y, zP τ (zN σ) 0 = some y ∧ zN σ ≤ y) (h1' : κ = 1 → LsR g O τ (wN c (zN σ) κ 0 cost) (zN σ) [] ∧ zP τ (zN σ) 1 = some (g 1)) (hn7 : ∀ x, zN σ < x → ¬ zK τ x = 7) (hU : zS τ + 2 * pot τ ≤ yU c + cost ∧ 8 * zN τ + pot τ ≤ yU c + cost) :
    CI g O τ (wN c (zN σ) κ 0 cost) ∧ CF O σ τ ∧ yK c (zN σ) = 0 := by
  have hF : CF O σ τ := ⟨fun b hb _ => hs b hb, by omega⟩
  have h0 : yK c (zN σ) = 0 := Decidable.of_not_not fun q => by have := (h.2.2.1 _ q).2.1; omega
  refine ⟨?_, hF, h0⟩
  have hC := h
  obtain ⟨h1, h2, h3, h4, h5, h6, h7i, h8, h9, h10⟩ := h
  have hk : ∀ b, ¬ b = zN σ → yK (wN c (zN σ) κ 0 cost) b = yK c b := fun b hb => by show (if b = zN σ then _ else _) = _; rw [if_neg hb]
  have hk0 : yK (wN c (zN σ) κ 0 cost) (zN σ) = κ := by show (if _ = _ then _ else _) = _; rw [if_pos rfl]
  have old : ∀ b, ¬ yK c b = 0 → b < zN σ := fun b hb => (h3 b hb).2.1
  refine ⟨hU, fun b i => ?_, fun b hb => ?_, fun b hb => ?_, fun b hb => ?_, fun b hb => ?_, fun b b' y e1 e2 e3 e4 => ?_, fun b b' y e1 e2 e3 e4 => ?_, h9.kept hF, fun b hb => h10.1 b (by omega), fun b y e1 e2 => ?_⟩
  · show _ ≤ (if b = zN σ then (if i = -1 then (0 : Int) else 0) else yI c b i) ∧ (if b = zN σ then (if i = -1 then (0 : Int) else 0) else yI c b i) ≤ _
    split
    · split
      · omega
      · omega
    · exact h2 b i
  · by_cases e : b = zN σ
    · rw [e, hk0]
      exact ⟨h10.1 _ (Nat.le_refl _), by omega, hK⟩
    · rw [hk b e] at hb ⊢
      obtain ⟨q1, q2, q3⟩ := h3 b hb
      exact ⟨q1, by omega, by rw [(hs b q2).1]; exact q3⟩
  · by_cases e : b = zN σ
    · subst e
      rw [hk0] at hb
      show TxR O τ _ (zN σ) (if zN σ = zN σ then [] else yT c (zN σ))
      rw [if_pos rfl]
      exact (h7 hb).1
    · rw [hk b e] at hb
      show TxR O τ _ b (if b = zN σ then [] else yT c b)
      rw [if_neg e]
      refine (h4 b hb).kept (hs b (old b (by omega))) (by omega) (fun b' hb' => ?_)
      obtain ⟨q1, q2, q3, q4⟩ := hC.hid hb hb'
      exact ⟨hs b' q4, by rw [hk b' (by omega)]; exact q1⟩
  · by_cases e : b = zN σ
    · subst e
      rw [hk0] at hb
      show LsR g O τ _ (zN σ) (if zN σ = zN σ then [] else yE c (zN σ))
      rw [if_pos rfl]
      exact (h1' hb).1
    · rw [hk b e] at hb
      show LsR g O τ _ b (if b = zN σ then [] else yE c b)
      rw [if_neg e]
      have hg := h9.2.1
      refine (h5 b hb).kept (hs b (old b (by omega))) (by omega) (fun b' hb' => ?_) (fun x q1 _ => (hs x (Decidable.of_not_not fun q => by rw [hz x (by omega)] at q1; omega)).1)
      rcases hC.hidL hb hb' with q | ⟨q1, q2, q3, q4⟩
      · exact ⟨hs b' (by rw [q]; exact hg.2.1), Or.inl q⟩
      · exact ⟨hs b' q4, Or.inr (by rw [hk b' (by omega)]; exact q1)⟩
  · by_cases e : b = zN σ
    · subst e
      rw [hk0] at hb
      exact absurd hκ (by have := hb.2; omega)
    · rw [hk b e] at hb ⊢
      obtain ⟨q1, q2, q3, q4⟩ := hs b (old b hb.1)
      obtain ⟨r1, r2⟩ := h6 b hb
      refine ⟨fun i => ⟨?_, ?_⟩, fun q => ?_⟩
      · rw [q3, (r1 i).1]
        show _ = iI (if b = zN σ then _ else yI c b i)
        rw [if_neg e]
      · rw [q4, (r1 i).2]
        show _ = (if b = zN σ then _ else yP c b i)
        rw [if_neg e]
      · rw [q2, r2 q]
        show _ = (if b = zN σ then _ else yI c b (-1))
        rw [if_neg e]
  · have key : ∀ x y, yK c x = 7 → ¬ x = zN σ → zP τ x 0 = some y → zP σ x 0 = some y ∧ y < zN σ := fun x y q1 q2 q3 => by
      rw [(hs x (old x (by omega))).2.2.2] at q3
      exact ⟨q3, (hC.hid q1 q3).2.2.2⟩
    by_cases n1 : b = zN σ
    · by_cases n2 : b' = zN σ
      · rw [n1, n2]
      · rw [hk b' n2] at e2
        rw [n1, hk0] at e1
        obtain ⟨z, r1, r2⟩ := (h7 e1).2
        rw [n1, r1] at e3
        cases e3
        have := (key b' _ e2 n2 e4).2
        omega
    · rw [hk b n1] at e1
      by_cases n2 : b' = zN σ
      · rw [n2, hk0] at e2
        obtain ⟨z, r1, r2⟩ := (h7 e2).2
        rw [n2, r1] at e4
        cases e4
        have := (key b _ e1 n1 e3).2
        omega
      · rw [hk b' n2] at e2
        exact h7i b b' y e1 e2 (key b y e1 n1 e3).1 (key b' y e2 n2 e4).1
  · have key : ∀ x y, yK c x = 1 → ¬ x = zN σ → zP τ x 1 = some y → zP σ x 1 = some y := fun x y q1 q2 q3 => by
      rw [(hs x (old x (by omega))).2.2.2] at q3
      exact q3
    by_cases n1 : b = zN σ
    · rw [n1, hk0] at e1
      have := (h1' e1).2
      rw [n1, this] at e3
      cases e3
      exact Or.inl rfl
    · rw [hk b n1] at e1
      by_cases n2 : b' = zN σ
      · rw [n2, hk0] at e2
        have := (h1' e2).2
        rw [n2, this] at e4
        cases e4
        exact Or.inl rfl
      · rw [hk b' n2] at e2
        exact h8 b b' y e1 e2 (key b y e1 n1 e3) (key b' y e2 n2 e4)
  · by_cases n1 : b = zN σ
    · rw [n1, hK] at e1
      obtain ⟨q1, -⟩ := h7 e1
      obtain ⟨y', r1, r2, -⟩ := q1
      rw [n1, r1] at e2
      cases e2
      exact r2.2.1
    · by_cases n3 : b < zN σ
      · rw [(hs b n3).1] at e1
        rw [(hs b n3).2.2.2] at e2
        have := h10.2 b y e1 e2
        omega
      · exact absurd e1 (hn7 b (by omega))
/-! rules of the class's level -/
variable {k pc pc' : Nat} {ls : LV} {st : List Value}
theorem CW.mono {Q' : Rs → CS → Prop} (h : CW g B O k pc ls st c Q) (hq : ∀ r d, yU d ≤ B → Q r d → Q' r d) : CW g B O k pc ls st c Q' := fun hB σ hC =>
  WP.mono (h hB σ hC) (fun r _ _ ⟨d, a, b, e, f⟩ => ⟨d, a, b, e, hq r d a f⟩)
theorem CW.at {σ0 : PS} {d : CS} (h : CW g B O k pc ls st d Q) (hB : yU d ≤ B) (hC : CI g O τ d) (hF : CF O σ0 τ) : WP g (B / 8) B k pc ls st τ (fun r ρ => ∃ d, yU d ≤ B ∧ CI g O ρ d ∧ CF O σ0 ρ ∧ Q r d) :=
  WP.mono (h hB τ hC) (fun _ _ _ ⟨d, a, b, e, f⟩ => ⟨d, a, b, hF.trans e, f⟩)
theorem CW.pot (h : yU c ≤ B → CW g B O k pc ls st c Q) : CW g B O k pc ls st c Q := fun hB => h hB hB
/-- of every state: ints in range, lengths -/
def CR (c : CS) : Prop := (∀ a j, -2147483648 ≤ yI c a j ∧ yI c a j ≤ 2147483647) ∧ (∀ a, yK c a = 7 → (yT c a).length ≤ 2048 ∧ ∀ i, 0 ≤ sg (yT c a) i ∧ sg (yT c a) i ≤ 65535) ∧ (∀ a, yK c a = 1 → (yE c a).length ≤ 64)
theorem sg_in {l : List Int} {i : Int} (h : 0 ≤ i ∧ i < l.length) : sg l i = l.getD i.toNat 0 := by
  unfold sg
  rw [if_pos h.1]
theorem sg_out {l : List Int} {i : Int} (h : i < 0 ∨ l.length ≤ i) : sg l i = 0 := by
  unfold sg
  split
  · rw [List.getD_eq_getElem?_getD, List.getElem?_eq_none (by omega)]
    rfl
  · rfl
theorem CI.cr (hC : CI g O σ c) : CR c := by
  refine ⟨hC.2.1, fun a ha => ⟨len_R hC ha, fun i => ?_⟩, fun a ha => ?_⟩
  · obtain ⟨b, hb, -, -, -, hc⟩ := hC.2.2.2.1 a ha
    by_cases h : 0 ≤ i ∧ i < (yT c a).length
    · rw [sg_in h]
      exact (hc i.toNat (by omega)).2
    · rw [sg_out (by omega)]
      omega
  · obtain ⟨b, hb, -, ⟨-, -, q, -⟩, -⟩ := hC.2.2.2.2.1 a ha
    exact q
theorem cq_R (h : CR c → CW g B O k pc ls st c Q) : CW g B O k pc ls st c Q := fun hB σ hC => h hC.cr hB σ hC
theorem cq_g {i : Instr} {len : Nat} {ls' : LV} {st' : List Value} (hd : decode (mB k) pc = .ok (i, len)) (hex : ∀ (σ : PS) (rec : Nat → Nat → LV → List Value → PS → Option (Rs × PS)), ex g (B / 8) B rec k pc (ilen i) ls st σ i = rec k pc' ls' st' σ)
    (h : CW g B O k pc' ls' st' c Q) (hl : len = ilen i := by rfl) (ht : tR k pc = none := by rfl) : CW g B O k pc ls st c Q := fun hB σ hC => r_g hd (hex σ) (h hB σ hC) hl ht
theorem cq_ic {n : Int} (hd : decode (mB k) pc = .ok (.iconst n, 1)) (h : CW g B O k (pc + 1) ls (.int (iI n) :: st) c Q) (ht : tR k pc = none := by rfl) : CW g B O k pc ls st c Q :=
  fun hB σ hC => r_ic hd (by rfl) (h hB σ hC) ht
theorem cq_bi {n : Int} (hd : decode (mB k) pc = .ok (.bipush n, 2)) (hn : (Int8.ofInt n).toInt32 = iI n) (h : CW g B O k (pc + 2) ls (.int (iI n) :: st) c Q) (ht : tR k pc = none := by rfl) : CW g B O k pc ls st c Q :=
  fun hB σ hC => r_bi hd hn (h hB σ hC) ht
theorem cq_si {n : Int} (hd : decode (mB k) pc = .ok (.sipush n, 3)) (hn : (Int16.ofInt n).toInt32 = iI n) (h : CW g B O k (pc + 3) ls (.int (iI n) :: st) c Q) (ht : tR k pc = none := by rfl) : CW g B O k pc ls st c Q :=
  fun hB σ hC => r_si hd hn (h hB σ hC) ht
theorem cq_goto {off : Int} {t : Nat} (hd : decode (mB k) pc = .ok (.goto off, 3)) (hj : jmp pc off = some t) (h : CW g B O k t ls st c Q) (ht : tR k pc = none := by rfl) : CW g B O k pc ls st c Q :=
  fun hB σ hC => r_goto hd hj (h hB σ hC) ht
theorem cq_if {cd : Jvm.ClassFile.Cond} {off : Int} {t : Nat} {x : Int} {P : Prop} (hd : decode (mB k) pc = .ok (.ifCond cd off, 3)) (hj : jmp pc off = some t) (hP : cnd cd (iI x) (iI 0) = true ↔ P) (h1 : P → CW g B O k t ls st c Q) (h2 : ¬ P → CW g B O k (pc + 3) ls st c Q) (ht : tR k pc = none := by rfl) : CW g B O k pc ls (.int (iI x) :: st) c Q :=
  fun hB σ hC => r_if hd hj hP (fun p => h1 p hB σ hC) (fun p => h2 p hB σ hC) ht
theorem cq_icmp {cd : Jvm.ClassFile.Cond} {off : Int} {t : Nat} {x y : Int} {P : Prop} (hd : decode (mB k) pc = .ok (.if_icmp cd off, 3)) (hj : jmp pc off = some t) (hP : cnd cd (iI x) (iI y) = true ↔ P) (h1 : P → CW g B O k t ls st c Q) (h2 : ¬ P → CW g B O k (pc + 3) ls st c Q) (ht : tR k pc = none := by rfl) : CW g B O k pc ls (.int (iI y) :: .int (iI x) :: st) c Q :=
  fun hB σ hC => r_icmp hd hj hP (fun p => h1 p hB σ hC) (fun p => h2 p hB σ hC) ht
theorem cq_add {x y : Int} (hd : decode (mB k) pc = .ok (.iadd, 1)) (h : CW g B O k (pc + 1) ls (.int (iI (x + y)) :: st) c Q) (ht : tR k pc = none := by rfl) : CW g B O k pc ls (.int (iI y) :: .int (iI x) :: st) c Q :=
  cq_g hd (fun _ _ => by rw [← iI_add]; rfl) h rfl ht
theorem cq_sub {x y : Int} (hd : decode (mB k) pc = .ok (.isub, 1)) (h : CW g B O k (pc + 1) ls (.int (iI (x - y)) :: st) c Q) (ht : tR k pc = none := by rfl) : CW g B O k pc ls (.int (iI y) :: .int (iI x) :: st) c Q :=
  cq_g hd (fun _ _ => by rw [← iI_sub]; rfl) h rfl ht
theorem cq_mul {x y : Int} (hd : decode (mB k) pc = .ok (.imul, 1)) (h : CW g B O k (pc + 1) ls (.int (iI (x * y)) :: st) c Q) (ht : tR k pc = none := by rfl) : CW g B O k pc ls (.int (iI y) :: .int (iI x) :: st) c Q :=
  cq_g hd (fun _ _ => by rw [← iI_mul]; rfl) h rfl ht
theorem cq_and {x y z : Int} (hd : decode (mB k) pc = .ok (.iand, 1)) (hz : iI x &&& iI y = iI z) (h : CW g B O k (pc + 1) ls (.int (iI z) :: st) c Q) (ht : tR k pc = none := by rfl) : CW g B O k pc ls (.int (iI y) :: .int (iI x) :: st) c Q :=
  cq_g hd (fun _ _ => by rw [← hz]; rfl) h rfl ht
theorem cq_ushr {x y : Int} (hd : decode (mB k) pc = .ok (.iushr, 1)) (hy : y = 0 ∨ y = 8 ∨ y = 16 ∨ y = 24) (h : CW g B O k (pc + 1) ls (.int (iI (x % 4294967296 / 2 ^ y.toNat)) :: st) c Q) (ht : tR k pc = none := by rfl) : CW g B O k pc ls (.int (iI y) :: .int (iI x) :: st) c Q :=
  cq_g hd (fun _ _ => by rw [← iI_ushr hy]; rfl) h rfl ht
theorem cq_div {x y : Int} (hd : decode (mB k) pc = .ok (.idiv, 1)) (hx : 0 ≤ x ∧ x ≤ 2147483647) (hy : 0 < y ∧ y ≤ 2147483647) (h : CW g B O k (pc + 1) ls (.int (iI (x / y)) :: st) c Q) (ht : tR k pc = none := by rfl) : CW g B O k pc ls (.int (iI y) :: .int (iI x) :: st) c Q :=
  fun hB σ hC => r_div hd (fun q => by have := (iI_eq (by omega) (by omega)).mp (q.trans (show (0 : Int32) = iI 0 from rfl)); omega) (by rw [iI_div hx hy]; exact h hB σ hC) ht
theorem cq_rem {x y : Int} (hd : decode (mB k) pc = .ok (.irem, 1)) (hx : 0 ≤ x ∧ x ≤ 2147483647) (hy : 0 < y ∧ y ≤ 2147483647) (h : CW g B O k (pc + 1) ls (.int (iI (x % y)) :: st) c Q) (ht : tR k pc = none := by rfl) : CW g B O k pc ls (.int (iI y) :: .int (iI x) :: st) c Q :=
  fun hB σ hC => r_rem hd (fun q => by have := (iI_eq (by omega) (by omega)).mp (q.trans (show (0 : Int32) = iI 0 from rfl)); omega) (by rw [iI_rem hx hy]; exact h hB σ hC) ht
theorem cq_inc {i : Nat} {n x : Int} {ls' : LV} (hd : decode (mB k) pc = .ok (.iinc i n, 3)) (hx : ls[i]? = some (some (.int (iI x)))) (hi : i < ls.length) (hl : stl ls i (.int (iI (x + n))) = ls') (h : CW g B O k (pc + 3) ls' st c Q) (ht : tR k pc = none := by rfl) : CW g B O k pc ls st c Q :=
  fun hB σ hC => r_inc hd hx hi (show Int32.ofInt n = iI n from rfl) (by rw [iI_add]; exact hl) (h hB σ hC) ht
theorem cq_nullN {off : Int} {t : Nat} (hd : decode (mB k) pc = .ok (.ifnull off, 3)) (hj : jmp pc off = some t) (h : CW g B O k t ls st c Q) (ht : tR k pc = none := by rfl) : CW g B O k pc ls (.null :: st) c Q := fun hB σ hC => r_nullN hd hj (h hB σ hC) ht
theorem cq_nullR {off : Int} {a : Nat} (hd : decode (mB k) pc = .ok (.ifnull off, 3)) (h : CW g B O k (pc + 3) ls st c Q) (ht : tR k pc = none := by rfl) : CW g B O k pc ls (.ref a :: st) c Q := fun hB σ hC => r_nullR hd (h hB σ hC) ht
theorem cq_aeq {off : Int} {t a b : Nat} (hd : decode (mB k) pc = .ok (.if_acmp .eq off, 3)) (hj : jmp pc off = some t) (h1 : a = b → CW g B O k t ls st c Q) (h2 : ¬ a = b → CW g B O k (pc + 3) ls st c Q) (ht : tR k pc = none := by rfl) : CW g B O k pc ls (.ref b :: .ref a :: st) c Q := fun hB σ hC => r_aeq hd hj (fun p => h1 p hB σ hC) (fun p => h2 p hB σ hC) ht
theorem cq_ane {off : Int} {t a b : Nat} (hd : decode (mB k) pc = .ok (.if_acmp .ne off, 3)) (hj : jmp pc off = some t) (h1 : ¬ a = b → CW g B O k t ls st c Q) (h2 : a = b → CW g B O k (pc + 3) ls st c Q) (ht : tR k pc = none := by rfl) : CW g B O k pc ls (.ref b :: .ref a :: st) c Q := fun hB σ hC => r_ane hd hj (fun p => h1 p hB σ hC) (fun p => h2 p hB σ hC) ht
theorem cq_getI {i cc j a : Nat} (hd : decode (mB k) pc = .ok (.getfield i, 3)) (hf : fR (mO k) i = some (cc, j)) (hc : cc ≤ 8) (hb : fB cc j = false) (hp : plK (cc + 1)) (hK : yK c a = cc + 1) (h : CW g B O k (pc + 3) ls (.int (iI (yI c a j)) :: st) c Q) (ht : tR k pc = none := by rfl) : CW g B O k pc ls (.ref a :: st) c Q :=
  fun hB σ hC => r_getI hd hf hc hb (hC.kind hK (by omega)) (by rw [((hC.2.2.2.2.2.1 a (by rw [hK]; exact hp)).1 j).1]; exact h hB σ hC) ht
theorem cq_getP {i cc j a b : Nat} (hd : decode (mB k) pc = .ok (.getfield i, 3)) (hf : fR (mO k) i = some (cc, j)) (hc : cc ≤ 8) (hb : fB cc j = true) (hp : plK (cc + 1)) (hK : yK c a = cc + 1) (hP : yP c a j = some b) (h : CW g B O k (pc + 3) ls (.ref b :: st) c Q) (ht : tR k pc = none := by rfl) : CW g B O k pc ls (.ref a :: st) c Q :=
  fun hB σ hC => r_getP hd hf hc hb (hC.kind hK (by omega)) (by rw [((hC.2.2.2.2.2.1 a (by rw [hK]; exact hp)).1 j).2]; exact hP) (h hB σ hC) ht
theorem cq_getN {i cc j a : Nat} (hd : decode (mB k) pc = .ok (.getfield i, 3)) (hf : fR (mO k) i = some (cc, j)) (hc : cc ≤ 8) (hb : fB cc j = true) (hp : plK (cc + 1)) (hK : yK c a = cc + 1) (hP : yP c a j = none) (h : CW g B O k (pc + 3) ls (.null :: st) c Q) (ht : tR k pc = none := by rfl) : CW g B O k pc ls (.ref a :: st) c Q :=
  fun hB σ hC => r_getN hd hf hc hb (hC.kind hK (by omega)) (by rw [((hC.2.2.2.2.2.1 a (by rw [hK]; exact hp)).1 j).2]; exact hP) (h hB σ hC) ht
/-- the length of a Text, as a field -/
theorem cq_tlen {i a : Nat} (hd : decode (mB k) pc = .ok (.getfield i, 3)) (hf : fR (mO k) i = some (6, 1)) (hK : yK c a = 7) (h : CW g B O k (pc + 3) ls (.int (iI (yT c a).length) :: st) c Q) (ht : tR k pc = none := by rfl) : CW g B O k pc ls (.ref a :: st) c Q :=
  fun hB σ hC => by
    obtain ⟨b, -, -, -, e, -⟩ := hC.2.2.2.1 a hK
    exact r_getI hd hf (by decide) rfl (hC.kind hK (by omega)) (by rw [e]; exact h hB σ hC) ht
theorem cq_putI {i cc j a : Nat} {x : Int} (hd : decode (mB k) pc = .ok (.putfield i, 3)) (hf : fR (mO k) i = some (cc, j)) (hc : cc ≤ 8) (hF : fF cc j = false ∨ (mI k = true ∧ mO k = cc)) (hb : fB cc j = false) (hp : plK (cc + 1)) (hz : fZ cc j = false ∨ x = 0 ∨ x = 1) (hr : -2147483648 ≤ x ∧ x ≤ 2147483647) (hK : yK c a = cc + 1) (h : CW g B O k (pc + 3) ls st (wI c a j x) Q) (ht : tR k pc = none := by rfl) : CW g B O k pc ls (.int (iI x) :: .ref a :: st) c Q :=
  fun hB σ hC => by
    have hs := CI_stI (j := j) (x := x) hC (by rw [hK]; exact hp) hr
    exact r_putI hd hf hc hF hb (hz.imp id (fun q => q.imp (fun e => by rw [e]; rfl) (fun e => by rw [e]; rfl))) (hC.kind hK (by omega)) (CW.at h hB hs.1 hs.2) ht
theorem cq_putP {i cc j a b : Nat} (hd : decode (mB k) pc = .ok (.putfield i, 3)) (hf : fR (mO k) i = some (cc, j)) (hc : cc ≤ 8) (hF : fF cc j = false ∨ (mI k = true ∧ mO k = cc)) (hb : fB cc j = true) (hp : plK (cc + 1)) (hK : yK c a = cc + 1) (h : CW g B O k (pc + 3) ls st (wP c a j (some b)) Q) (ht : tR k pc = none := by rfl) : CW g B O k pc ls (.ref b :: .ref a :: st) c Q :=
  fun hB σ hC => by
    have hs := CI_stP (j := j) (x := some b) hC (by rw [hK]; exact hp)
    exact r_putP hd hf hc hF hb (hC.kind hK (by omega)) (CW.at h hB hs.1 hs.2) ht
theorem cq_putN {i cc j a : Nat} (hd : decode (mB k) pc = .ok (.putfield i, 3)) (hf : fR (mO k) i = some (cc, j)) (hc : cc ≤ 8) (hF : fF cc j = false ∨ (mI k = true ∧ mO k = cc)) (hb : fB cc j = true) (hp : plK (cc + 1)) (hK : yK c a = cc + 1) (h : CW g B O k (pc + 3) ls st (wP c a j none) Q) (ht : tR k pc = none := by rfl) : CW g B O k pc ls (.null :: .ref a :: st) c Q :=
  fun hB σ hC => by
    have hs := CI_stP (j := j) (x := none) hC (by rw [hK]; exact hp)
    exact r_putN hd hf hc hF hb (hC.kind hK (by omega)) (CW.at h hB hs.1 hs.2) ht
theorem cq_iald {a : Nat} {x : Int} (hd : decode (mB k) pc = .ok (.iaload, 1)) (hK : yK c a = 101) (hx : 0 ≤ x ∧ x < yI c a (-1)) (h : CW g B O k (pc + 1) ls (.int (iI (yI c a x)) :: st) c Q) (ht : tR k pc = none := by rfl) : CW g B O k pc ls (.int (iI x) :: .ref a :: st) c Q :=
  fun hB σ hC => by
    obtain ⟨e1, e2⟩ := hC.2.2.2.2.2.1 a (by rw [hK]; unfold plK; decide)
    have e2 := e2 (Or.inl hK)
    have e3 := hC.2.1 a (-1)
    refine r_iald (n := x.toNat) hd (iI_tn hx.1) (by omega) (Or.inl (hC.kind hK (by omega))) (by omega) ?_ ht
    rw [(e1 x.toNat).1, Int.toNat_of_nonneg hx.1]
    exact h hB σ hC
theorem cq_need {x : Int} (hd : decode (mB k) pc = .ok (.iaload, 1)) (hx : 0 ≤ x ∧ x < 20) (h : CW g B O k (pc + 1) ls (.int (iI (need x.toNat).toInt) :: st) c Q) (ht : tR k pc = none := by rfl) : CW g B O k pc ls (.int (iI x) :: .ref (g 0) :: st) c Q :=
  fun hB σ hC => by
    obtain ⟨-, -, e1, e2, e3⟩ := hC.2.2.2.2.2.2.2.2.1.1
    refine r_iald (n := x.toNat) hd (iI_tn hx.1) (by omega) (Or.inr e1) (by omega) ?_ ht
    rw [e3 x.toNat (by omega), ← iI_of (need x.toNat)]
    exact h hB σ hC
theorem cq_aald {a b : Nat} {x : Int} (hd : decode (mB k) pc = .ok (.aaload, 1)) (hK : yK c a = 103) (hx : 0 ≤ x ∧ x < yI c a (-1)) (hP : yP c a x = some b) (h : CW g B O k (pc + 1) ls (.ref b :: st) c Q) (ht : tR k pc = none := by rfl) : CW g B O k pc ls (.int (iI x) :: .ref a :: st) c Q :=
  fun hB σ hC => by
    obtain ⟨e1, e2⟩ := hC.2.2.2.2.2.1 a (by rw [hK]; unfold plK; decide)
    have e2 := e2 (Or.inr hK)
    have e3 := hC.2.1 a (-1)
    refine r_aald (n := x.toNat) hd (iI_tn hx.1) (by omega) (Or.inl (hC.kind hK (by omega))) (by omega) ?_ (h hB σ hC) ht
    rw [(e1 x.toNat).2, Int.toNat_of_nonneg hx.1]
    exact hP
theorem cq_iast {a : Nat} {x z : Int} (hd : decode (mB k) pc = .ok (.iastore, 1)) (hK : yK c a = 101) (hx : 0 ≤ x ∧ x < yI c a (-1)) (hr : -2147483648 ≤ z ∧ z ≤ 2147483647) (h : CW g B O k (pc + 1) ls st (wI c a x z) Q) (ht : tR k pc = none := by rfl) : CW g B O k pc ls (.int (iI z) :: .int (iI x) :: .ref a :: st) c Q :=
  fun hB σ hC => by
    obtain ⟨e1, e2⟩ := hC.2.2.2.2.2.1 a (by rw [hK]; unfold plK; decide)
    have e2 := e2 (Or.inl hK)
    have e3 := hC.2.1 a (-1)
    have hs := CI_stI (j := x.toNat) (x := z) hC (a := a) (by rw [hK]; unfold plK; decide) hr
    rw [Int.toNat_of_nonneg hx.1] at hs
    exact r_iast (n := x.toNat) hd (iI_tn hx.1) (by omega) (hC.kind hK (by omega)) (by omega) (CW.at h hB hs.1 hs.2) ht
theorem cq_aast {a b : Nat} {x : Int} (hd : decode (mB k) pc = .ok (.aastore, 1)) (hK : yK c a = 103) (hb : yK c b = 7) (hx : 0 ≤ x ∧ x < yI c a (-1)) (h : CW g B O k (pc + 1) ls st (wP c a x (some b)) Q) (ht : tR k pc = none := by rfl) : CW g B O k pc ls (.ref b :: .int (iI x) :: .ref a :: st) c Q :=
  fun hB σ hC => by
    obtain ⟨e1, e2⟩ := hC.2.2.2.2.2.1 a (by rw [hK]; unfold plK; decide)
    have e2 := e2 (Or.inr hK)
    have e3 := hC.2.1 a (-1)
    have hs := CI_stP (j := x.toNat) (x := some b) hC (a := a) (by rw [hK]; unfold plK; decide)
    rw [Int.toNat_of_nonneg hx.1] at hs
    exact r_aast (n := x.toNat) hd (iI_tn hx.1) (by omega) (Or.inl ⟨hC.kind hK (by omega), hC.kind hb (by omega)⟩) (by omega) (CW.at h hB hs.1 hs.2) ht
theorem cq_chk {i cc a : Nat} (hd : decode (mB k) pc = .ok (.checkcast i, 3)) (hk : kR (mO k) i = some cc) (hc : cc ≤ 8) (hK : yK c a = cc + 1) (h : CW g B O k (pc + 3) ls (.ref a :: st) c Q) (ht : tR k pc = none := by rfl) : CW g B O k pc ls (.ref a :: st) c Q :=
  fun hB σ hC => r_chk hd hk (Or.inl ⟨hc, hC.kind hK (by omega)⟩) (h hB σ hC) ht
theorem cq_ldcS {i j : Nat} (hd : decode (mB k) pc = .ok (.ldc i, 2)) (hk : lS (mO k) i = some j) (h : CW g B O k (pc + 2) ls (.ref (g (100 + j)) :: st) c Q) (ht : tR k pc = none := by rfl) : CW g B O k pc ls st c Q := fun hB σ hC => r_ldcS hd hk (h hB σ hC) ht
theorem cq_gets {i : Nat} (hd : decode (mB k) pc = .ok (.getstatic i, 3)) (hs : sR (mO k) i = some 0) (h : CW g B O k (pc + 3) ls (.ref (g 0) :: st) c Q) (ht : tR k pc = none := by rfl) : CW g B O k pc ls st c Q := fun hB σ hC => r_gets hd hs rfl (h hB σ hC) ht
theorem cq_oi {i a : Nat} (hd : decode (mB k) pc = .ok (.invokespecial i, 3)) (hk : cR (mO k) i = some 1000) (h1 : st.length ≤ 4 ∧ 1 ≤ mF k ∧ 20 ≤ mW k) (h : CW g B O k (pc + 3) ls st c Q) (ht : tR k pc = none := by rfl) : CW g B O k pc ls (.ref a :: st) c Q := fun hB σ hC => r_oi hd hk h1 (h hB σ hC) ht
theorem cq_max {i : Nat} {x y : Int} (hd : decode (mB k) pc = .ok (.invokestatic i, 3)) (hk : cR (mO k) i = some 1002) (h1 : st.length ≤ 4 ∧ 1 ≤ mF k ∧ 21 ≤ mW k) (hx : -2147483648 ≤ x ∧ x ≤ 2147483647) (hy : -2147483648 ≤ y ∧ y ≤ 2147483647) (h : CW g B O k (pc + 3) ls (.int (iI (max x y)) :: st) c Q) (ht : tR k pc = none := by rfl) : CW g B O k pc ls (.int (iI y) :: .int (iI x) :: st) c Q := fun hB σ hC => by
  refine r_max hd hk h1 ?_ ht
  have e : (if iI x < iI y then iI y else iI x) = iI (max x y) := by
    by_cases q : x < y
    · rw [if_pos ((iI_lt hx hy).mpr q), Int.max_eq_right (by omega)]
    · rw [if_neg (fun r => q ((iI_lt hx hy).mp r)), Int.max_eq_left (by omega)]
  rw [e]
  exact h hB σ hC
theorem cq_min {i : Nat} {x y : Int} (hd : decode (mB k) pc = .ok (.invokestatic i, 3)) (hk : cR (mO k) i = some 1003) (h1 : st.length ≤ 4 ∧ 1 ≤ mF k ∧ 21 ≤ mW k) (hx : -2147483648 ≤ x ∧ x ≤ 2147483647) (hy : -2147483648 ≤ y ∧ y ≤ 2147483647) (h : CW g B O k (pc + 3) ls (.int (iI (min x y)) :: st) c Q) (ht : tR k pc = none := by rfl) : CW g B O k pc ls (.int (iI y) :: .int (iI x) :: st) c Q := fun hB σ hC => by
  refine r_min hd hk h1 ?_ ht
  have e : (if iI y < iI x then iI y else iI x) = iI (min x y) := by
    by_cases q : y < x
    · rw [if_pos ((iI_lt hy hx).mpr q), Int.min_eq_right (by omega)]
    · rw [if_neg (fun r => q ((iI_lt hy hx).mp r)), Int.min_eq_left (by omega)]
  rw [e]
  exact h hB σ hC
theorem cq_new {i cc N : Nat} (hd : decode (mB k) pc = .ok (.new i, 3)) (hk : kR (mO k) i = some cc) (hc : cc ≤ 8) (hN : fN cc = N) (hp : plK (cc + 1)) (hU : yU c + (N + 8) ≤ B) (h : ∀ b, yK c b = 0 → CW g B O k (pc + 3) ls (.ref b :: st) (wN c b (cc + 1) 0 (N + 8)) Q) (ht : tR k pc = none := by rfl) : CW g B O k pc ls st c Q :=
  fun hB σ hC => WP.ok fun hz => by
    have hu := hC.1
    obtain ⟨q1, q2, q3⟩ := CI_new (τ := alO σ (cc + 1) N) (κ := cc + 1) (n := 0) (cost := N + 8) (N := N) hC (hz _ (Nat.le_refl _)) hp (by omega) rfl rfl (by omega) (fun b hb => ⟨by rw [zK_alO, if_neg hb], rfl, funext fun j => by rw [zI_alO, if_neg hb], funext fun j => by rw [zP_alO, if_neg hb]⟩) (by rw [zK_alO, if_pos rfl]) (fun j => by rw [zI_alO, if_pos rfl]) (fun j => by rw [zP_alO, if_pos rfl]) (fun q => by omega)
    exact r_new hd hk hc hN (by omega) (by omega) (CW.at (h _ q3) hU q1 q2) ht
theorem cq_newI {x : Int} (hd : decode (mB k) pc = .ok (.newarray .int, 2)) (hx : 0 ≤ x ∧ x ≤ 100000) (hU : yU c + (x.toNat + 8) ≤ B) (h : ∀ b, yK c b = 0 → CW g B O k (pc + 2) ls (.ref b :: st) (wN c b 101 x (x.toNat + 8)) Q) (ht : tR k pc = none := by rfl) : CW g B O k pc ls (.int (iI x) :: st) c Q :=
  fun hB σ hC => WP.ok fun hz => by
    have hu := hC.1
    obtain ⟨q1, q2, q3⟩ := CI_new (τ := alA σ 101 x.toNat) (κ := 101) (n := x.toNat) (cost := x.toNat + 8) (N := x.toNat) hC (hz _ (Nat.le_refl _)) (by unfold plK; decide) (by omega) rfl rfl (by omega) (fun b hb => ⟨by rw [zK_alA, if_neg hb], by rw [zL_alA, if_neg hb], funext fun j => by rw [zI_alA, if_neg hb], funext fun j => by rw [zP_alA, if_neg hb]⟩) (by rw [zK_alA, if_pos rfl]) (fun j => by rw [zI_alA, if_pos rfl]) (fun j => by rw [zP_alA, if_pos rfl]) (fun _ => by rw [zL_alA, if_pos rfl])
    rw [Int.toNat_of_nonneg hx.1] at q1
    exact r_newI (n := x.toNat) hd (iI_tn hx.1) (by omega) (by omega) (by omega) (CW.at (h _ q3) hU q1 q2) ht
theorem cq_anew {i : Nat} {x : Int} (hd : decode (mB k) pc = .ok (.anewarray i, 3)) (hk : kR (mO k) i = some 6) (hx : 0 ≤ x ∧ x ≤ 100000) (hU : yU c + (x.toNat + 8) ≤ B) (h : ∀ b, yK c b = 0 → CW g B O k (pc + 3) ls (.ref b :: st) (wN c b 103 x (x.toNat + 8)) Q) (ht : tR k pc = none := by rfl) : CW g B O k pc ls (.int (iI x) :: st) c Q :=
  fun hB σ hC => WP.ok fun hz => by
    have hu := hC.1
    obtain ⟨q1, q2, q3⟩ := CI_new (τ := alA σ 103 x.toNat) (κ := 103) (n := x.toNat) (cost := x.toNat + 8) (N := x.toNat) hC (hz _ (Nat.le_refl _)) (by unfold plK; decide) (by omega) rfl rfl (by omega) (fun b hb => ⟨by rw [zK_alA, if_neg hb], by rw [zL_alA, if_neg hb], funext fun j => by rw [zI_alA, if_neg hb], funext fun j => by rw [zP_alA, if_neg hb]⟩) (by rw [zK_alA, if_pos rfl]) (fun j => by rw [zI_alA, if_pos rfl]) (fun j => by rw [zP_alA, if_pos rfl]) (fun _ => by rw [zL_alA, if_pos rfl])
    rw [Int.toNat_of_nonneg hx.1] at q1
    exact r_anew (κ := 103) (n := x.toNat) hd hk (Or.inl rfl) rfl (iI_tn hx.1) (by omega) (by omega) (by omega) (CW.at (h _ q3) hU q1 q2) ht
theorem cq_thr {j : Nat} (ht : tR k pc = some j) (hl : st.length ≤ 4) (hF : 6 ≤ mF k) (hW : 90 ≤ mW k) (hU : yU c + 8 ≤ B) (h : Q (Sum.inr j) c) : CW g B O k pc ls st c Q :=
  fun hB σ hC => by
    have hu := hC.1
    exact r_thr ht hl hF hW (by omega) (by omega) ⟨c, hB, hC, CF.rfl, h⟩
theorem cq_ret {x : Int} (hd : decode (mB k) pc = .ok (.ireturn, 1)) (hn : nOK (mR k) (iI x) = true) (h : Q (Sum.inl (some (.int (iI x)))) c) (ht : tR k pc = none := by rfl) : CW g B O k pc ls [.int (iI x)] c Q :=
  fun hB σ hC => r_ret hd hn ⟨c, hB, hC, CF.rfl, h⟩ ht
theorem cq_aret {a : Nat} (hd : decode (mB k) pc = .ok (.areturn, 1)) (hn : aOK (mR k) = true) (h : Q (Sum.inl (some (.ref a))) c) (ht : tR k pc = none := by rfl) : CW g B O k pc ls [.ref a] c Q :=
  fun hB σ hC => r_aret hd hn ⟨c, hB, hC, CF.rfl, h⟩ ht
theorem cq_vret (hd : decode (mB k) pc = .ok (.return_, 1)) (hn : mR k = none) (h : Q (Sum.inl none) c) (ht : tR k pc = none := by rfl) : CW g B O k pc ls [] c Q :=
  fun hB σ hC => r_vret hd hn ⟨c, hB, hC, CF.rfl, h⟩ ht
theorem cq_call {i : Instr} {len k2 op : Nat} {rest : List Value} {ls2 : LV} {th : Bool} (hd : decode (mB k) pc = .ok (i, len)) (hex : ∀ (σ : PS) (rec : Nat → Nat → LV → List Value → PS → Option (Rs × PS)), ex g (B / 8) B rec k pc (ilen i) ls st σ i = calM rec k pc (ilen i) ls st σ k2 op)
    (h1 : rmOK k k2 = true) (h2 : mA k2 ≤ st.length) (h3 : (st.drop (mA k2)).length ≤ 4) (h4 : (ent (st.take (mA k2)).reverse).length ≤ mL k2) (h5 : ∀ σ, CI g O σ c → rcv σ op k2 (st.take (mA k2)).reverse = true) (h6 : entL (st.take (mA k2)).reverse (mL k2) = ls2) (h7 : st.drop (mA k2) = rest) (h8 : pc + ilen i = pc') (h9 : th = true → 81 ≤ k2 ∧ k2 ≤ 86)
    (h : CW g B O k2 0 ls2 [] c (CK g B O k pc' ls rest Q th)) (hl : len = ilen i := by rfl) (ht : tR k pc = none := by rfl) : CW g B O k pc ls st c Q := fun hB σ hC => by
  refine r_call (th := th) hd (hex σ) h1 h2 h3 h4 (h5 σ hC) h6 h7 h8 h9 ?_ hl ht
  refine WP.mono (h hB σ hC) (fun r τ _ ⟨d, a, b, e, f⟩ => ?_)
  cases r with
  | inl z => exact CW.at f a b e
  | inr j => exact ⟨f.1, d, a, b, e, f.2⟩
end CNew
