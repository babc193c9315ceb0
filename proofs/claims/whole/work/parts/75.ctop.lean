/-! THE CLASS'S OBJECT -/
def XA (c : CS) (ℓ : LB) (x : Nat) (A : Nat → Nat) : Prop := (yK c x = 8 ∧ ℓ x = (x, 0)) ∧ (yP c x 0 = some (A 0) ∧ yP c x 1 = some (A 1) ∧ yP c x 4 = some (A 2) ∧ yP c x 5 = some (A 6) ∧ yP c x 6 = some (A 7) ∧ yP c x 7 = some (A 8)) ∧ (yK c (A 0) = 1 ∧ ℓ (A 0) = (x, 1)) ∧ (yK c (A 1) = 1 ∧ ℓ (A 1) = (x, 2)) ∧ ℓ (A 2) = (x, 3) ∧ (yK c (A 6) = 7 ∧ ℓ (A 6) = (x, 4)) ∧ (PsI c ℓ (A 7) ∧ ℓ (A 7) = (x, 5)) ∧ (yK c (A 8) = 7 ∧ ℓ (A 8) = (x, 6))
/-- what the latest run left -/
def RR (c : CS) (li me mf : Nat) (Es Rs : List Nat) (o : RO) : Prop := yI c li 1 = (oR o).length ∧ (oR o).length ≤ Rs.length ∧ (∀ i, i < (oR o).length → yP c (Rs.getD i 0) 0 = some (Es.getD ((oR o).getD i 0) 0) ∧ (oR o).getD i 0 < Es.length ∧ yI c (Rs.getD i 0) 6 = ((oE o).getD i 0 : Nat) ∧ TxJ c (Rs.getD i 0) 7 ((oX o).getD i [])) ∧ LK c li me mf (oM o) ∧ yI c li 2 = if oB o = true then 1 else 0
def XR (c : CS) (ℓ : LB) (x : Nat) (A : Nat → Nat) (Es Rs : List Nat) (s : ST) : Prop := XA c ℓ x A ∧ LsI c ℓ (A 2) (A 3) (A 4) (A 5) Rs ∧ RR c (A 2) (A 4) (A 5) Es Rs (qR s) ∧ yE c (A 0) = Es ∧ (∃ Ci : List Nat, yE c (A 1) = Ci.map (fun n => Es.getD n 0) ∧ Ci.length = qN s ∧ Ci.foldl addN [] = qF s ∧ ∀ n, n ∈ Ci → n < Es.length) ∧ (yI c x 2 = qS s ∧ yI c x 3 = qL s) ∧ yT c (A 6) = qO s
def XI (U : Nat) (c : CS) (ℓ : LB) (x : Nat) (A : Nat → Nat) (Es Rs : List Nat) (s : ST) : Prop := SK s ∧ EI c ℓ Es (qD s) ∧ XR c ℓ x A Es Rs s ∧ yU c ≤ U + 74400 + 37000 * Es.length + 40200 * Rs.length
def XE (U : Nat) (c : CS) (x : Nat) (A : Nat → Nat) (s : ST) : Prop := ∃ ℓ Es Rs, XI U c ℓ x A Es Rs s
section CTop
variable {g : Nat → Nat} {B U : Nat} {O : Nat → Prop} {c d : CS} {Q : Rs → CS → Prop} {ℓ ℓ' : LB} {Es Rs : List Nat} {s : ST} {x li rl me mf : Nat} {A : Nat → Nat} {o : RO}
theorem XA.keep (h : XA c ℓ x A) (hl : ∀ a, ¬ yK c a = 0 → ℓ' a = ℓ a ∧ yK d a = yK c a) (hk : ¬ yK c (A 2) = 0) (hx : yP d x = yP c x) (hp : PsI d ℓ' (A 7)) : XA d ℓ' x A := by
  obtain ⟨⟨a1, a2⟩, b, ⟨c1, c2⟩, ⟨d1, d2⟩, e1, ⟨f1, f2⟩, ⟨g1, g2⟩, ⟨h1, h2⟩⟩ := h
  have g0 := g1.1
  refine ⟨⟨by rw [(hl x (by omega)).2]; exact a1, by rw [(hl x (by omega)).1]; exact a2⟩, by rw [hx]; exact b, ⟨by rw [(hl _ (by omega)).2]; exact c1, by rw [(hl _ (by omega)).1]; exact c2⟩, ⟨by rw [(hl _ (by omega)).2]; exact d1, by rw [(hl _ (by omega)).1]; exact d2⟩, by rw [(hl _ hk).1]; exact e1, ⟨by rw [(hl _ (by omega)).2]; exact f1, by rw [(hl _ (by omega)).1]; exact f2⟩, ⟨hp, by rw [(hl _ (by omega)).1]; exact g2⟩, ⟨by rw [(hl _ (by omega)).2]; exact h1, by rw [(hl _ (by omega)).1]; exact h2⟩⟩
theorem LsI.keep (h : LsI c ℓ li rl me mf Rs) (hl : ∀ a, ¬ yK c a = 0 → ℓ' a = ℓ a ∧ yK d a = yK c a) (hk : ∀ a, ¬ yK c a = 0 → (SL ℓ li a ∨ yK c (ℓ (ℓ a).1).1 = 6) → Kp c d a) : LsI d ℓ' li rl me mf Rs := by
  obtain ⟨⟨l1, l2, l3, l4⟩, ⟨r1, r2, r3⟩, ⟨m1, m2, m3⟩, ⟨n1, n2, n3⟩, s1, s2, s3⟩ := h
  have lk := l1.1
  have kli := hk li (by omega) (Or.inl (Or.inl rfl))
  have krl := hk rl (by omega) (Or.inl (Or.inr (by rw [r2])))
  have kme := hk me (by omega) (Or.inl (Or.inr (by rw [m2])))
  have kmf := hk mf (by omega) (Or.inl (Or.inr (by rw [n2])))
  refine ⟨⟨l1.fs (fun a ha => ⟨(hl a ha).2, (hl a ha).1⟩), by rw [kli.2.2.1]; exact l2, by rw [kli.2.2.1]; exact l3, by rw [kli.2.2.1]; exact l4⟩, ⟨by rw [krl.1]; exact r1, by rw [(hl rl (by omega)).1]; exact r2, by rw [krl.2.2.2.2]; exact r3⟩, ⟨by rw [kme.1]; exact m1, by rw [(hl me (by omega)).1]; exact m2, by rw [kme.2.1]; exact m3⟩, ⟨by rw [kmf.1]; exact n1, by rw [(hl mf (by omega)).1]; exact n2, by rw [kmf.2.1]; exact n3⟩, s1, s2, fun i hi => ?_⟩
  have ri := s3 i hi
  exact ri.keep hl (fun a ha q => hk a ha (Or.inr (by rw [OR_rt ri.1.2 q]; exact ri.1.1)))
theorem RR.keep (h : RR c li me mf Es Rs o) (hI : LsI c ℓ li rl me mf Rs) (hk : ∀ a, ¬ yK c a = 0 → (SL ℓ li a ∨ yK c (ℓ (ℓ a).1).1 = 6) → Kp c d a) : RR d li me mf Es Rs o := by
  obtain ⟨⟨l1, l2, l3, l4⟩, ⟨r1, r2, r3⟩, ⟨m1, m2, m3⟩, ⟨n1, n2, n3⟩, s1, s2, s3⟩ := hI
  obtain ⟨h1, h2, h3, ⟨h4, h5⟩, h6⟩ := h
  have lk := l1.1
  have kli := hk li (by omega) (Or.inl (Or.inl rfl))
  have kme := hk me (by omega) (Or.inl (Or.inr (by rw [m2])))
  have kmf := hk mf (by omega) (Or.inl (Or.inr (by rw [n2])))
  refine ⟨by rw [kli.2.1]; exact h1, h2, fun i hi => ?_, ⟨by rw [kli.2.1]; exact h4, fun i hi => by rw [kme.2.1, kmf.2.1]; exact h5 i hi⟩, by rw [kli.2.1]; exact h6⟩
  obtain ⟨q1, q2, q3, a, q4, q5⟩ := h3 i hi
  have ri := s3 i (by omega)
  have rk := ri.1.1
  obtain ⟨a', y1, y2, y3⟩ := ri.2.2 7 (Or.inr (Or.inr (Or.inr (Or.inr rfl))))
  rw [q4] at y1
  cases y1
  have kr := hk (Rs.getD i 0) (by omega) (Or.inr (by rw [ri.1.2, ri.1.2]; exact rk))
  have ka := hk a (by omega) (Or.inr (by rw [y3, ri.1.2]; exact rk))
  exact ⟨by rw [kr.2.2.1]; exact q1, q2, by rw [kr.2.1]; exact q3, a, by rw [kr.2.2.1]; exact q4, by rw [ka.2.2.2.1]; exact q5⟩
/-- where only entries changed -/
theorem XR.keep (h : XR c ℓ x A Es Rs s) (hl : ∀ a, ¬ yK c a = 0 → ℓ' a = ℓ a ∧ yK d a = yK c a) (hk : ∀ a, ¬ yK c a = 0 → ¬ EO c ℓ (ℓ a).1 → Kp c d a) : XR d ℓ' x A Es Rs s := by
  obtain ⟨h1, h2, h3, h4, ⟨Ci, h5⟩, h6, h7⟩ := h
  have kS : ∀ a, ¬ yK c a = 0 → (SL ℓ (A 2) a ∨ yK c (ℓ (ℓ a).1).1 = 6) → Kp c d a := fun a ha q => hk a ha (fun e => by
    rcases q with q | q
    · exact EO_SL h2.1.1 e q
    · rw [e.2] at q
      have q : yK c (ℓ a).1 = 6 := q
      have := e.1
      omega)
  obtain ⟨⟨a1, a2⟩, b, ⟨c1, c2⟩, ⟨d1, d2⟩, e1, ⟨f1, f2⟩, ⟨g1, g2⟩, ⟨i1, i2⟩⟩ := id h1
  have nx : ∀ a y, ℓ a = (x, y) → ¬ EO c ℓ (ℓ a).1 := fun a y e q => by rw [e] at q; have q : yK c x = 2 := q.1; omega
  have kx := hk x (by omega) (nx x 0 a2)
  have k0 := hk (A 0) (by omega) (nx _ _ c2)
  have k1 := hk (A 1) (by omega) (nx _ _ d2)
  have k6 := hk (A 6) (by omega) (nx _ _ f2)
  have g0 := g1.1
  have hp : PsI d ℓ' (A 7) := g1.keep hl (fun a ha q => hk a ha (fun e => by
    rcases q with q | q
    · rw [q] at e; exact nx _ _ g2 e
    · rw [q] at e; have e : yK c (A 7) = 2 := e.1; omega))
  exact ⟨h1.keep hl (by have := h2.1.1.1; omega) kx.2.2.1 hp, h2.keep hl kS, h3.keep h2 kS, by rw [k0.2.2.2.2]; exact h4, ⟨Ci, by rw [k1.2.2.2.2]; exact h5.1, h5.2⟩, by rw [kx.2.1]; exact h6, by rw [k6.2.2.2.1]; exact h7⟩
/-- what x owns beside the listing -/
def SX (ℓ : LB) (x li a : Nat) : Prop := (ℓ (ℓ a).1).1 = x ∧ ¬ SL ℓ li a
theorem SX_k (hx : yK c x = 8) (hl : LI c ℓ li) (hF : FS (SX ℓ x li) ℓ ℓ' c d) : ∀ a, ¬ yK c a = 0 → (SL ℓ li a ∨ yK c (ℓ (ℓ a).1).1 = 6) → Kp c d a := fun a ha q => hF.2 a ha (fun e => by
  rcases q with q | q
  · exact e.2 q
  · rw [e.1] at q; omega)
theorem EI.sx {D : Db} (h : EI c ℓ Es D) (hx : yK c x = 8) (hF : FS (SX ℓ x li) ℓ ℓ' c d) : EI d ℓ' Es D := h.keep (fun a ha => (hF.1 a ha).2) (fun a ha e => hF.2 a ha (fun q => by
  have q := q.1
  rw [e.2] at q
  have q : (ℓ a).1 = x := q
  have := e.1
  rw [q] at this
  omega))
/-! bytes -/
theorem byte_k (n : Int) (k : Nat) (hk : k < 4) : (n % 4294967296 / 2 ^ (8 * (k : Int)).toNat) % 256 = btk n k := by
  unfold btk
  have e : (8 * (k : Int)).toNat = 8 * k := by omega
  rw [e]
  have h4 : k = 0 ∨ k = 1 ∨ k = 2 ∨ k = 3 := by omega
  rcases h4 with q | q | q | q <;> subst q
  · show n % 4294967296 / 1 % 256 = n / 1 % 256; omega
  · show n % 4294967296 / 256 % 256 = n / 256 % 256; omega
  · show n % 4294967296 / 65536 % 256 = n / 65536 % 256; omega
  · show n % 4294967296 / 16777216 % 256 = n / 16777216 % 256; omega
theorem btk_R2 (n : Int) (k : Nat) : 0 ≤ btk n k ∧ btk n k ≤ 255 := by
  unfold btk
  omega
theorem t87 {n : Int} {k : Nat} (hk : k < 4) (hn : -2147483648 ≤ n ∧ n ≤ 2147483647) (h : Q (Sum.inl (some (.int (iI (btk n k))))) c) : CW g B O 87 0 [some (.int (iI n)), some (.int (iI k))] [] c Q := by
  refine c87_0 ⟨by omega, by omega, ?_⟩ (hx0 := by omega) (hx1 := by omega)
  rw [byte_k n k hk]
  exact h
theorem t88 {y : Int} (hy : 0 ≤ y ∧ y ≤ 255) (h : Q (Sum.inl (some (.int (iI (if okB y = true then 1 else 0))))) c) : CW g B O 88 0 [some (.int (iI y))] [] c Q := by
  have yes : okB y = true → ∀ {l0 : Option Value}, CW g B O 88 40 [l0] [] c Q := fun e l0 => c88_40 (c88_45 ⟨Or.inr rfl, by rw [if_pos e] at h; exact h⟩)
  have no : ¬ okB y = true → ∀ {l0 : Option Value}, CW g B O 88 44 [l0] [] c Q := fun e l0 => c88_44 (c88_45 ⟨Or.inl rfl, by rw [if_neg e] at h; exact h⟩)
  have ii := okB_iff (x := y)
  unfold okc at ii
  have hi : ¬ (32 ≤ y ∧ y ≤ 126) → CW g B O 88 12 [some (.int (iI y))] [] c Q := fun q0 => c88_12 ⟨fun q => no (fun z => by have := ii.mp z; omega), fun q => ⟨fun r => by omega, fun r => ⟨fun w => no (fun z => by have := ii.mp z; omega), fun w => ⟨fun v => no (fun z => by have := ii.mp z; omega), fun v => yes (ii.mpr (by omega))⟩⟩⟩⟩
  exact c88_0 ⟨fun q => hi (by omega), fun q => ⟨fun r => yes (ii.mpr (by omega)), fun r => hi (by omega)⟩⟩
theorem chK_S (n : Int) (k : Nat) : chK n (k + 1) = chK n k ++ if btk n k = 0 then [] else [btk n k] := rfl
theorem gdK_S (n : Int) (k : Nat) : gdK n (k + 1) = (gdK n k && (decide (btk n k = 0) || okB (btk n k))) := rfl
theorem gdK_mono (n : Int) {k : Nat} (h : gdK n k = false) : ∀ j, gdK n (k + j) = false
  | 0 => h
  | j + 1 => by
    rw [← Nat.add_assoc, gdK_S, gdK_mono n h j]
    rfl
theorem chK_mono (n : Int) (k : Nat) : ∀ j, (chK n k).length ≤ (chK n (k + j)).length
  | 0 => Nat.le_refl _
  | j + 1 => by
    rw [← Nat.add_assoc, chK_S, List.length_append]
    have := chK_mono n k j
    omega
theorem t86 {a : Nat} {n : Int} {lim : Nat} (ha : yK c a = 7) (hl : (yT c a).length ≤ lim) (hlim : lim ≤ 100) (hn : -2147483648 ≤ n ∧ n ≤ 2147483647) (hU : yU c + 8 ≤ B) (h1 : gdK n 4 = false → Q (Sum.inr 2) c) (h2 : gdK n 4 = true → lim < (yT c a).length + (chK n 4).length → Q (Sum.inr 3) c) (h3 : gdK n 4 = true → (yT c a).length + (chK n 4).length ≤ lim → Q (Sum.inl none) (wT c a (yT c a ++ chK n 4))) : CW g B O 86 0 [some (.ref a), some (.int (iI n)), some (.int (iI lim)), none, none, none] [] c Q := by
  have hc4 := chK_len n 4
  have wr : gdK n 4 = true → (yT c a).length + (chK n 4).length ≤ lim → ∀ (m k : Nat) {l2 l3 l5 : Option Value}, 4 - k = m → k ≤ 4 → CW g B O 86 74 [some (.ref a), some (.int (iI n)), l2, l3, some (.int (iI k)), l5] [] (wT c a (yT c a ++ chK n k)) Q := fun g1 g2 m => by
    induction m with
    | zero =>
      intro k l2 l3 l5 m1 m2
      have : k = 4 := by omega
      subst this
      exact c86_74 ⟨fun _ => h3 g1 g2, fun q => by omega⟩ (hx1 := by omega)
    | succ m ih =>
      intro k l2 l3 l5 m1 m2
      have hb := btk_R2 n k
      have hch := chK_S n k
      have hm := chK_mono n (k + 1) (4 - (k + 1))
      rw [show k + 1 + (4 - (k + 1)) = 4 by omega, hch, List.length_append] at hm
      have nxt : ∀ (d : CS) {l2 l3 l5 : Option Value}, d = wT c a (yT c a ++ chK n (k + 1)) → CW g B O 86 99 [some (.ref a), some (.int (iI n)), l2, l3, some (.int (iI k)), l5] [] d Q := fun d l2 l3 l5 e => by
        subst e
        exact c86_99 ⟨by omega, ih (k + 1) (by omega) (by omega)⟩ (hx1 := by omega) (hx4 := by omega)
      refine c86_74 ⟨fun q => by omega, fun _ => t87 (by omega) hn ?_⟩ (hx1 := by omega) (hx4 := by omega)
      refine c86_86 ⟨fun q => nxt _ (by rw [hch, if_pos q, List.append_nil]), fun q => t87 (by omega) hn ?_⟩ (hx1 := by omega) (hx4 := by omega) (hu0 := by omega)
      rw [if_neg q] at hch hm
      have hm : (chK n k).length + 1 ≤ (chK n 4).length := hm
      refine c86_96 ⟨ha, by omega, by rw [yT_wT, List.length_append]; omega, fun d4 e4 => nxt d4 ?_⟩ (hx1 := by omega) (hx4 := by omega) (hu0 := by omega)
      rw [e4, yT_wT, wT_wT, hch, List.append_assoc]
  have rd : ∀ (m k : Nat) {l5 : Option Value}, 4 - k = m → k ≤ 4 → gdK n k = true → CW g B O 86 5 [some (.ref a), some (.int (iI n)), some (.int (iI lim)), some (.int (iI (chK n k).length)), some (.int (iI k)), l5] [] c Q := by
    intro m
    induction m with
    | zero =>
      intro k l5 m1 m2 m3
      have : k = 4 := by omega
      subst this
      refine c86_5 ⟨fun _ => ⟨ha, by omega, fun q => ?_, fun q => ⟨hU, h2 m3 (by omega)⟩⟩, fun q => by omega⟩ (hx1 := by omega) (hx2 := by omega) (hx3 := by omega)
      have := wr m3 (by omega) 4 0 (l2 := some (.int (iI lim))) (l3 := some (.int (iI (chK n 4).length))) (l5 := l5) rfl (by omega)
      have e : wT c a (yT c a ++ chK n 0) = c := by
        have : (fun z => if z = a then yT c a ++ chK n 0 else yT c z) = yT c := funext fun z => by
          by_cases q : z = a
          · rw [if_pos q, q]; exact List.append_nil _
          · rw [if_neg q]
        show (yU c, yK c, yI c, yP c, (fun z => if z = a then yT c a ++ chK n 0 else yT c z), yE c) = _
        rw [this]
        rfl
      rw [e] at this
      exact this
    | succ m ih =>
      intro k l5 m1 m2 m3
      have hb := btk_R2 n k
      have hck := chK_len n k
      have hch := chK_S n k
      have hg := gdK_S n k
      rw [m3, Bool.true_and] at hg
      refine c86_5 ⟨fun q => by omega, fun _ => t87 (by omega) hn ?_⟩ (hx1 := by omega) (hx2 := by omega) (hx3 := by omega) (hx4 := by omega)
      refine c86_17 ⟨fun q => ?_, fun q => t88 hb ?_⟩ (hx1 := by omega) (hx2 := by omega) (hx3 := by omega) (hx4 := by omega) (hu0 := by omega)
      · refine c86_45 ⟨by omega, ?_⟩ (hx1 := by omega) (hx2 := by omega) (hx3 := by omega) (hx4 := by omega)
        have := ih (k + 1) (l5 := some (.int (iI (btk n k)))) (by omega) (by omega) (by rw [hg, q]; rfl)
        rw [hch, if_pos q, List.append_nil] at this
        exact this
      · by_cases z : okB (btk n k) = true
        · rw [if_pos z]
          refine c86_29 ⟨fun _ => ⟨by omega, c86_45 ⟨by omega, ?_⟩ (hx1 := by omega) (hx2 := by omega) (hx3 := by omega) (hx4 := by omega)⟩, fun q => by omega⟩ (hx1 := by omega) (hx2 := by omega) (hx3 := by omega) (hx4 := by omega)
          have := ih (k + 1) (l5 := some (.int (iI (btk n k)))) (by omega) (by omega) (by rw [hg, z, Bool.or_true])
          rw [hch, if_neg q, List.length_append] at this
          exact this
        · rw [if_neg z]
          refine c86_29 ⟨fun q => by omega, fun _ => ⟨hU, h1 ?_⟩⟩ (hx1 := by omega) (hx2 := by omega) (hx3 := by omega) (hx4 := by omega)
          have hf : gdK n (k + 1) = false := by
            rw [hg, decide_eq_false q, Bool.false_or]
            exact Bool.eq_false_iff.mpr z
          have := gdK_mono n hf (4 - (k + 1))
          rw [show k + 1 + (4 - (k + 1)) = 4 by omega] at this
          exact this
  exact c86_0 (rd 4 0 rfl (by omega) rfl) (hx1 := by omega) (hx2 := by omega)
theorem t85 {a : Nat} {i : Int} (ha : yK c a = 7) (hi : -2147483648 ≤ i ∧ i ≤ 2147483647) (hU : yU c + 8 ≤ B) (h1 : 0 ≤ i ∧ i < (yT c a).length → Q (Sum.inl (some (.int (iI ((yT c a).getD i.toNat 0))))) c) (h2 : ¬ (0 ≤ i ∧ i < (yT c a).length) → Q (Sum.inr 1) c) : CW g B O 85 0 [some (.ref a), some (.int (iI i))] [] c Q := by
  have ex : ¬ (0 ≤ i ∧ i < (yT c a).length) → ∀ {l0 l1 : Option Value}, CW g B O 85 12 [l0, l1] [] c Q := fun q l0 l1 => c85_12 ⟨hU, h2 q⟩
  refine c85_0 ⟨fun q => ex (by omega), fun q => ⟨ha, fun r => ⟨ha, ?_⟩, fun r => ex (by omega)⟩⟩ (hx1 := by omega)
  have : sg (yT c a) i = (yT c a).getD i.toNat 0 := by
    obtain ⟨j, rfl⟩ : ∃ j : Nat, i = j := ⟨i.toNat, by omega⟩
    rw [sg_nat, Int.toNat_natCast]
  rw [this]
  exact h1 ⟨q, r⟩
end CTop
