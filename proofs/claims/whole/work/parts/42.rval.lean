/-- a character that a field may hold -/
def okc (x : Int) : Prop := (32 ≤ x ∧ x ≤ 126) ∨ (192 ≤ x ∧ x ≤ 255 ∧ ¬ x = 215 ∧ ¬ x = 247)
def fr1 (d : Int) : Int := if d < 232 then (if d = 231 then 99 else 97) else if d < 240 then (if d < 236 then 101 else 105) else if d < 249 then (if d = 240 then 100 else if d = 241 then 110 else 111) else if d < 253 then 117 else 121
def fr0 (c : Int) : Int := if c < 192 then (if 65 ≤ c ∧ c ≤ 90 then c + 32 else c) else if c = 223 then 115 else if c = 222 ∨ c = 254 then 116 else fr1 (if c < 224 then c + 32 else c)
theorem fr_fo {x : Int} (h : okc x) : fr0 x = fo x := by
  have : ∀ n : Nat, n < 256 → ¬ n = 215 → ¬ n = 247 → fr0 (n : Int) = fo (n : Int) := by decide +kernel
  unfold okc at h
  have := this x.toNat (by omega) (by omega) (by omega)
  rw [Int.toNat_of_nonneg (by omega)] at this
  exact this
/-- small letters -/
def smc (x : Int) : Prop := (97 ≤ x ∧ x ≤ 122) ∨ 222 < x
theorem fo_ok {x : Int} (h : okc x) : 32 ≤ fo x ∧ fo x ≤ 255 := by
  have : ∀ n : Nat, n < 256 → 32 ≤ n → 32 ≤ fo (n : Int) ∧ fo (n : Int) ≤ 255 := by decide +kernel
  unfold okc at h
  have := this x.toNat (by omega) (by omega)
  rw [Int.toNat_of_nonneg (by omega)] at this
  exact this
/-- the other row of the reference -/
def Oth (v : VS) (l : List Int) : Prop := v 23 0 = l.length ∧ Hd (v 22) 0 l
def FrT (v w : VS) : Prop := ∀ j, j < 20 ∨ 23 < j → w j = v j
theorem FrT.rfl {v : VS} : FrT v v := fun _ _ => by rfl
theorem FrT.trans {v w u : VS} (h : FrT v w) (h' : FrT w u) : FrT v u := fun j h1 => (h' j h1).trans (h j h1)
theorem FrO.t {v w : VS} (h : FrO v w) : FrT v w := fun j hj => h j (by omega) (by omega)
theorem WdR.frT {v w : VS} {b : Int} {T : List TWd} (h : WdR v b T) (hf : FrT v w) : WdR w b T := by
  obtain ⟨h0, h1, h2, h3⟩ := h
  refine ⟨h0, by rw [hf 14 (by omega)]; exact h1, h2, fun i hi => ?_⟩
  rw [hf 17 (by omega), hf 18 (by omega), hf 15 (by omega), hf 16 (by omega), hf 13 (by omega)]
  exact h3 i hi
section RVal
variable {g : Nat → Nat} {C S m : Nat} {A : Nat → Nat} {v : VS} {Q : Rs → VS → Prop} {l : List Int}
theorem s105 {x : Int} (hx : okc x) (h : Q (Sum.inl (some (.int (iI (fo x))))) v) : RW g C S m A 105 0 [some (.int (iI x)), none] [] v Q := by
  rw [← fr_fo hx] at h
  unfold okc at hx
  have k : ∀ y, fr0 x = y → Q (Sum.inl (some (.int (iI y)))) v := fun y e => by rw [← e]; exact h
  have k1 : ∀ d, fr0 x = fr1 d → (224 ≤ d ∧ d ≤ 255) → ∀ {l0 l1 : Option Value}, RW g C S m A 105 70 [l0, l1] [.int (iI d)] v Q := fun d e hd l0 l1 => by
    have k2 : ∀ y, fr1 d = y → Q (Sum.inl (some (.int (iI y)))) v := fun y e' => k y (e.trans e')
    refine v105_70 ⟨fun a1 => ⟨fun a2 => ⟨fun a3 => ⟨fun a4 => v105_163 (k2 _ ?_), fun a4 => v105_163 (k2 _ ?_)⟩, fun a3 => ⟨fun a4 => ⟨fun a5 => v105_148 (k2 _ ?_), fun a5 => v105_148 (k2 _ ?_)⟩, fun a4 => v105_148 (k2 _ ?_)⟩⟩, fun a2 => ⟨fun a3 => v105_114 (k2 _ ?_), fun a3 => v105_114 (k2 _ ?_)⟩⟩, fun a1 => ⟨fun a2 => v105_92 (k2 _ ?_), fun a2 => v105_92 (k2 _ ?_)⟩⟩ <;> (unfold fr1; (repeat' split) <;> omega)
  refine v105_0 ⟨fun a1 => ⟨fun a2 => ⟨fun a3 => v105_52 (k _ ?_), fun a3 => ⟨fun a4 => ⟨fun a5 => k1 _ ?_ (by omega), fun a5 => ⟨by omega, k1 _ ?_ (by omega)⟩⟩, fun a4 => v105_52 (k _ ?_)⟩⟩, fun a2 => k _ ?_⟩, fun a1 => ⟨fun a2 => v105_26 (v105_27 (k _ ?_)), fun a2 => ⟨fun a3 => v105_26 (v105_27 (k _ ?_)), fun a3 => ⟨by omega, v105_27 (k _ ?_)⟩⟩⟩⟩
  · unfold fr0; rw [if_neg (by omega), if_neg (by omega), if_pos (by omega)]
  · unfold fr0; rw [if_neg (by omega), if_neg (by omega), if_neg (by omega), if_neg (by omega)]
  · unfold fr0; rw [if_neg (by omega), if_neg (by omega), if_neg (by omega), if_pos (by omega)]
  · unfold fr0; rw [if_neg (by omega), if_neg (by omega), if_pos (by omega)]
  · unfold fr0; rw [if_neg (by omega), if_pos (by omega)]
  · unfold fr0; rw [if_pos (by omega), if_neg (by omega)]
  · unfold fr0; rw [if_pos (by omega), if_neg (by omega)]
  · unfold fr0; rw [if_pos (by omega), if_pos (by omega)]
theorem s106 {x : Int} (hx : -2147483648 ≤ x ∧ x ≤ 2147483647) (h1 : smc x → Q (Sum.inl (some (.int (iI 1)))) v) (h2 : ¬ smc x → Q (Sum.inl (some (.int (iI 0)))) v) : RW g C S m A 106 0 [some (.int (iI x))] [] v Q := by
  unfold smc at h1 h2
  have y : (97 ≤ x ∧ x ≤ 122) ∨ 222 < x → ∀ {l0 : Option Value}, RW g C S m A 106 19 [l0] [] v Q := fun e l0 => v106_19 (v106_24 ⟨Or.inr rfl, h1 e⟩)
  have n : (x < 97 ∨ 122 < x) → RW g C S m A 106 12 [some (.int (iI x))] [] v Q := fun e => v106_12 ⟨fun q => v106_24 ⟨Or.inl rfl, h2 (by omega)⟩, fun q => y (Or.inr q)⟩
  exact v106_0 ⟨fun q => n (by omega), fun q => ⟨fun r => y (by omega), fun r => n (by omega)⟩⟩
/-- a word begins with a small letter -/
def sml (w : List Int) : Prop := smc (w.getD 0 0)
theorem s107 {T : List TWd} {b : Int} {i : Nat} (hT : WdR v b T) (hi : i < T.length) (h1 : sml (T.getD i wd0).2.2 → Q (Sum.inl (some (.int (iI 1)))) v) (h2 : ¬ sml (T.getD i wd0).2.2 → Q (Sum.inl (some (.int (iI 0)))) v) : RW g C S m A 107 0 [some (.ref m), some (.int (iI (64 * b + i)))] [] v Q := by
  refine qv_R fun hv => ?_
  obtain ⟨hb, t1, t2, t3⟩ := hT
  obtain ⟨-, ⟨a3, a4, a5⟩, a6, a7⟩ := t3 i hi
  have a8 := a6 0 (by omega)
  rw [show v 15 (64 * b + i) + ((0 : Nat) : Int) = v 15 (64 * b + i) by omega] at a8
  unfold sml at h1 h2
  rw [← a8] at h1 h2
  exact v107_0 ⟨by omega, by omega, s106 (hv _ _) (fun q => v107_14 ⟨Or.inr rfl, h1 q⟩) (fun q => v107_14 ⟨Or.inl rfl, h2 q⟩)⟩
theorem s119 (hO : One v l) (hl : l.length ≤ 1000) (h : ∀ w, Oth w l → One w [] → FrT v w → Q (Sum.inl none) w) : RW g C S m A 119 0 [some (.ref m), none] [] v Q := by
  refine v119_0 (fun w1 e1 => ?_)
  have key : ∀ (n i : Nat) (u : VS), l.length - i = n → i ≤ l.length → FrT v u → One u l → u 23 0 = l.length → Hd (u 22) 0 (l.take i) → RW g C S m A 119 10 [some (.ref m), some (.int (iI i))] [] u Q := by
    intro n
    induction n with
    | zero =>
      intro i u e1 e2 hf hu h23 h22
      have := hu.1
      rw [List.take_of_length_le (by omega)] at h22
      refine v119_10 ⟨fun _ w ew => h w ⟨?_, ?_⟩ ⟨?_, fun i hi => absurd hi (Nat.not_lt_zero _)⟩ (fun j hj => ?_), fun q => by omega⟩
      · rw [ew, uv_j (by decide)]; exact h23
      · rw [ew, uv_j (by decide)]; exact h22
      · rw [ew, uv_eq]; rfl
      · rw [ew, uv_j (by omega)]; exact hf j hj
    | succ n ih =>
      intro i u e1 e2 hf hu h23 h22
      have := hu.1
      have hi := hu.2.at0 (x := i) (by omega)
      rw [Int.toNat_natCast] at hi
      refine v119_10 ⟨fun q => by omega, fun _ => ⟨by omega, by omega, fun w ew => ⟨by omega, ih (i + 1) w (by omega) (by omega) (fun j hj => ?_) ⟨?_, ?_⟩ ?_ ?_⟩⟩⟩
      · rw [ew, uv_j (by omega)]; exact hf j hj
      · rw [ew, uv_j (by decide)]; exact this
      · rw [ew, uv_j (by decide)]; exact hu.2
      · rw [ew, uv_j (by decide)]; exact h23
      · have ht : (l.take i).length = i := by rw [List.length_take]; omega
        rw [take_snoc (d := 0) (by omega), ← hi]
        refine h22.app (fun k hk => ?_) ?_
        · rw [ew, uv_ne (fun q => by omega)]
        · rw [ew, ht, Int.zero_add, uv_eq]
  refine key _ 0 w1 rfl (Nat.zero_le _) (fun j hj => by rw [e1, uv_j (by omega)]) ⟨by rw [e1, uv_j (by decide)]; exact hO.1, by rw [e1, uv_j (by decide)]; exact hO.2⟩ (by rw [e1, uv_eq]; exact hO.1) (fun i hi => absurd hi (Nat.not_lt_zero _))
/-- the folding that a comparison does, or none -/
def fol (b : Int) (l : List Int) : List Int := if b = 0 then l else l.map fo
theorem s120 {b : Int} {l' : List Int} (hb : b = 0 ∨ b = 1) (hO : One v l) (hT : Oth v l') (hl : l.length ≤ 1000 ∧ l'.length ≤ 1000) (hc : ∀ x, x ∈ l → okc x ∨ x = 32 ∨ x = 46) (hc' : ∀ x, x ∈ l' → okc x ∨ x = 32 ∨ x = 46) (h : Q (Sum.inl (some (.int (iI (cmpL (fol b l') (fol b l)))))) v) : RW g C S m A 120 0 [some (.ref m), some (.int (iI b)), none, none, none] [] v Q := by
  have hcc : ∀ {x : Int}, (okc x ∨ x = 32 ∨ x = 46) → okc x := fun q => by
    rcases q with q | q | q
    · exact q
    · unfold okc; omega
    · unfold okc; omega
  have h21 := hO.1
  have h23 := hT.1
  refine v120_0 ?_
  have key : ∀ (n i : Nat) {l3 l4 : Option Value}, min l.length l'.length - i = n → i ≤ min l.length l'.length → Q (Sum.inl (some (.int (iI (cmpL (fol b (l'.drop i)) (fol b (l.drop i))))))) v → RW g C S m A 120 2 [some (.ref m), some (.int (iI b)), some (.int (iI i)), l3, l4] [] v Q := by
    intro n
    induction n with
    | zero =>
      intro i l3 l4 e1 e2 h
      have e : cmpL (fol b (l'.drop i)) (fol b (l.drop i)) = v 23 0 - v 21 0 := by
        have fl : ∀ l : List Int, (fol b l).length = l.length := fun l => by unfold fol; split <;> simp
        have f0 : fol b [] = [] := by unfold fol; split <;> rfl
        by_cases q : l'.length ≤ i
        · rw [List.drop_eq_nil_of_le q, f0]
          show -(((fol b (l.drop i)).length : Nat) : Int) = _
          rw [fl, List.length_drop]
          omega
        · rw [show l.drop i = [] from List.drop_eq_nil_of_le (by omega), f0, cmpL_nil, fl, List.length_drop]
          omega
      rw [e] at h
      exact v120_2 ⟨fun _ => v120_82 ⟨by omega, h⟩, fun _ => ⟨fun _ => v120_82 ⟨by omega, h⟩, fun q => by omega⟩⟩
    | succ n ih =>
      intro i l3 l4 e1 e2 h
      have a1 := hO.2.at0 (x := i) (by omega)
      have a2 := hT.2.at0 (x := i) (by omega)
      rw [Int.toNat_natCast] at a1 a2
      have c1 := hcc (hc _ (getD_mem (l := l) (i := i) (by omega)))
      have c2 := hcc (hc' _ (getD_mem (l := l') (i := i) (by omega)))
      have r1 : 0 ≤ l.getD i 0 ∧ l.getD i 0 ≤ 255 := by unfold okc at c1; omega
      have r2 : 0 ≤ l'.getD i 0 ∧ l'.getD i 0 ≤ 255 := by unfold okc at c2; omega
      have f1 := fo_R r1
      have f2 := fo_R r2
      rw [drop_cons (l := l) (by omega), drop_cons (l := l') (by omega)] at h
      have last : ∀ (y z : Int) {l3 l4 : Option Value}, (0 ≤ y ∧ y ≤ 255) → (0 ≤ z ∧ z ≤ 255) → Q (Sum.inl (some (.int (iI (if y = z then cmpL (fol b (l'.drop (i + 1))) (fol b (l.drop (i + 1))) else y - z))))) v → RW g C S m A 120 63 [some (.ref m), some (.int (iI b)), some (.int (iI i)), some (.int (iI y)), l4] [.int (iI z)] v Q := fun y z l3 l4 hy hz hq => by
        refine v120_63 ⟨fun q => ⟨by omega, ?_⟩, fun q => ⟨by omega, ?_⟩⟩
        · rw [if_pos q] at hq
          exact ih (i + 1) (by omega) (by omega) hq
        · rw [if_neg q] at hq
          exact hq
      rcases hb with q | q
      · subst q
        refine v120_2 ⟨fun q => by omega, fun _ => ⟨fun q => by omega, fun _ => ⟨fun _ => ⟨by omega, ?_⟩, fun q => absurd rfl q⟩⟩⟩
        rw [a2]
        refine v120_40 ⟨fun _ => ⟨by omega, ?_⟩, fun q => absurd rfl q⟩
        rw [a1]
        exact last _ _ (l3 := none) r2 r1 h
      · subst q
        refine v120_2 ⟨fun q => by omega, fun _ => ⟨fun q => by omega, fun _ => ⟨fun q => by omega, fun _ => ⟨by omega, ?_⟩⟩⟩⟩
        rw [a2]
        refine s105 c2 (v120_31 (v120_40 ⟨fun q => by omega, fun _ => ⟨by omega, ?_⟩⟩))
        rw [a1]
        exact s105 c1 (v120_54 (last _ _ (l3 := none) f2 f1 h))
  exact key _ 0 rfl (Nat.zero_le _) h
end RVal
