/-! BASES AND LETTERS OF THE REFERENCE -/
theorem One.frB {v w : VS} {l : List Int} {b : Int} (h : One v l) (hf : FrB b v w) : One w l := by
  unfold One
  rw [hf.1 21 (by omega), hf.1 20 (by omega)]
  exact h
theorem FrB.trans' {b : Int} {u v w : VS} (h : FrC u v) (h' : FrB b v w) : FrC u w := h.trans h'.c
section RBase
variable {g : Nat → Nat} {C S m : Nat} {A : Nat → Nat} {v : VS} {Q : Rs → VS → Prop} {D : Db} {l : List Int}
theorem key_of (hD : DOK D) (hv : RDb v D) {e : Nat} (he : e < dN D) : v 3 e = (dY D e).length ∧ Hd (v 4) (16 * (e : Int)) (dY D e) ∧ (dY D e).length ≤ 16 := by
  have hd := hD.1
  obtain ⟨q1, q2, -⟩ := hv.2.2 e (by omega)
  exact ⟨q1, q2, (hD.2.2.1 e).1⟩
theorem s127 {e : Nat} (hD : DOK D) (hv : RDb v D) (he : e < dN D) (hO : One v []) (h : ∀ w, One w (shB D e) → FrC v w → Q (Sum.inl none) w) : RW g C S m A 127 0 [some (.ref m), some (.int (iI e)), none, none, none, none] [] v Q := by
  have hd := hD.1
  refine v127_0 (s110 hD hv he (Or.inl rfl) (fun w1 t1 n1 f1 => v127_6 ?_))
  have ht := val_ok hD e 0
  have hn := np40 ht.1
  have hy := val_ok hD e 2
  unfold shB at h
  have k1 := fa_K (val D e 0)
  have sf : ∀ p : Nat, sel (tgs (val D e 0)) (p : Int) 2 = fa (val D e 0) p := fun p => (tgs_sel (val D e 0) p).2.2
  rw [n1]
  have c81 : ∀ (w : VS) (a : List Int) {l2 l3 l4 l5 : Option Value}, a.length ≤ 100 → One w a → FrC v w → (∀ w, One w (a ++ (val D e 2).drop ((val D e 2).length - 2)) → FrC v w → Q (Sum.inl none) w) → RW g C S m A 127 81 [some (.ref m), some (.int (iI e)), l2, l3, l4, l5] [] w Q := fun w a l2 l3 l4 l5 ha hw hf hq => by
    refine v127_81 (s103 hD (hf.db hv) he (by decide) (fun r hr => ?_))
    have hr5 := hr.s
    generalize val D e 2 = y at *
    refine v127_87 ⟨fun q => ?_, fun q => ?_⟩ (hu0 := by omega)
    · rcases hr5 with ⟨q1, q2⟩ | ⟨q1, -⟩
      · subst q2
        refine v127_103 (v127_115 (v127_121 ⟨fun _ => v127_159 (hq w ?_ hf), fun r => absurd q r⟩)) (hx3 := by omega)
        show One w (a ++ [])
        rw [List.append_nil]
        exact hw
      · omega
    · obtain ⟨q1, q2, q3, q4⟩ := hr5.resolve_left (fun s => q s.1)
      have loop : ∀ (n k : Nat) (u : VS) {l1 l2 l4 : Option Value}, y.length - k = n → k ≤ y.length → FrO w u → One u (a ++ (y.take k).drop (y.length - 2)) → y.length - 2 ≤ k → RW g C S m A 127 121 [some (.ref m), l1, l2, some (.int (iI r)), l4, some (.int (iI k))] [] u Q := by
        intro n
        induction n with
        | zero =>
          intro k u l1 l2 l4 k1 k2 hfu hu _
          have e5 : u 5 r = y.length := by rw [hfu 5 (by decide) (by decide)]; exact q2
          rw [List.take_of_length_le (by omega)] at hu
          exact v127_121 ⟨fun s => absurd s q, fun _ => ⟨q1, fun _ => v127_159 (hq u hu (hf.trans hfu.c)), fun s => by omega⟩⟩
        | succ n ih =>
          intro k u l1 l2 l4 k1 k2 hfu hu hk
          refine qv_R fun hv' => ?_
          have e5 : u 5 r = y.length := by rw [hfu 5 (by decide) (by decide)]; exact q2
          have e6 : u 6 (80 * r + k) = y.getD k 0 := by rw [hfu 6 (by decide) (by decide)]; exact q3 k (by omega)
          have hR := hv' 6 (80 * r + k)
          rw [e6] at hR
          refine v127_121 ⟨fun s => absurd s q, fun _ => ⟨q1, fun s => by omega, fun _ => ⟨by omega, by omega, by omega, ?_⟩⟩⟩
          rw [e6]
          refine s111 hu (by rw [List.length_append, List.length_drop, List.length_take]; omega) hR (fun w2 o2 f2 => v127_153 ⟨by omega, ih (k + 1) w2 (by omega) (by omega) (hfu.trans f2) ?_ (by omega)⟩)
          have : (y.take (k + 1)).drop (y.length - 2) = (y.take k).drop (y.length - 2) ++ [y.getD k 0] := by
            rw [take_snoc (d := 0) (by omega), List.drop_append_of_le_length (by rw [List.length_take]; omega)]
          rw [this, ← List.append_assoc]
          exact o2
      have st : ∀ k : Nat, k = y.length - 2 → ∀ {l1 l2 l4 : Option Value}, RW g C S m A 127 121 [some (.ref m), l1, l2, some (.int (iI r)), l4, some (.int (iI k))] [] w Q := fun k hk l1 l2 l4 => by
        refine loop _ k w rfl (by omega) FrO.rfl ?_ (by omega)
        rw [List.drop_eq_nil_of_le (by rw [List.length_take]; omega), List.append_nil]
        exact hw
      refine ⟨by omega, fun s => ⟨by omega, by omega, v127_115 ?_⟩, fun s => v127_103 (v127_115 (st 0 (by omega)))⟩
      rw [q2, show (y.length : Int) - 2 = ((y.length - 2 : Nat) : Int) by omega]
      exact st _ rfl
  have c70 : ∀ (w : VS) (a : List Int) {l3 l4 l5 : Option Value}, a.length ≤ 90 → One w a → FrC v w → (∀ w, One w (a ++ (if 4 < np (val D e 0) then [43] else []) ++ (val D e 2).drop ((val D e 2).length - 2)) → FrC v w → Q (Sum.inl none) w) → RW g C S m A 127 70 [some (.ref m), some (.int (iI e)), some (.int (iI (np (val D e 0)))), l3, l4, l5] [] w Q := fun w a l3 l4 l5 ha hw hf hq => by
    refine v127_70 ⟨fun q => c81 w a (by omega) hw hf (fun w' hw' hf' => hq w' ?_ hf'), fun q => s111 hw (by omega) (by decide) (fun w2 o2 f2 => c81 w2 _ (by rw [List.length_append]; show _ + 1 ≤ _; omega) o2 (hf.trans f2.c) (fun w' hw' hf' => hq w' ?_ hf'))⟩
    · rw [if_neg (by omega), List.append_nil]; exact hw'
    · rw [if_pos (by omega)]; exact hw'
  refine ⟨by decide, fun q => ⟨fun q1 => v127_39 ?_, fun q1 => ?_⟩, fun q => ?_⟩
  · rw [if_neg (by omega), if_neg (by omega)] at h
    have loop : ∀ (n p : Nat) (u : VS) {l4 l5 : Option Value}, min (np (val D e 0)) 4 - p = n → p ≤ min (np (val D e 0)) 4 → FrO w1 u → One u (fsg (val D e 0) p) → RW g C S m A 127 41 [some (.ref m), some (.int (iI e)), some (.int (iI (np (val D e 0)))), some (.int (iI p)), l4, l5] [] u Q := by
      intro n
      induction n with
      | zero =>
        intro p u l4 l5 p1 p2 hfu hu
        have hp : p = min (np (val D e 0)) 4 := by omega
        rw [hp] at hu
        have hl := fsg_len (val D e 0) (min (np (val D e 0)) 4)
        have fin : RW g C S m A 127 70 [some (.ref m), some (.int (iI e)), some (.int (iI (np (val D e 0)))), some (.int (iI p)), l4, l5] [] u Q := c70 u _ (by omega) hu (f1.c.trans hfu.c) h
        exact v127_41 ⟨fun _ => fin, fun _ => ⟨fun _ => fin, fun s => by omega⟩⟩
      | succ n ih =>
        intro p u l4 l5 p1 p2 hfu hu
        have hl := fsg_len (val D e 0) p
        have hw := (k1 p).1
        refine v127_41 ⟨fun s => by omega, fun _ => ⟨fun s => by omega, fun _ => ⟨fun s => by omega, fun _ => ?_⟩⟩⟩
        refine s115 (q := 2) (most := 1) ((t1.fr hfu)) (by omega) (by decide) (by decide) hu (by rw [sf]; omega) (fun w2 o2 f2 => v127_64 ⟨by omega, ih (p + 1) w2 (by omega) (by omega) (hfu.trans f2) ?_⟩)
        rw [sf] at o2
        exact o2
    exact loop _ 0 w1 rfl (Nat.zero_le _) FrO.rfl (hO.frB f1)
  · have q1 : np (val D e 0) = 1 := by omega
    have hw := (k1 0).1
    have s0 : sel (tgs (val D e 0)) 0 2 = fa (val D e 0) 0 := sf 0
    refine s115 (p := 0) (q := 2) (most := 3) t1 (by decide) (by decide) (by decide) (hO.frB f1) (by rw [s0]; show 0 + _ ≤ _; omega) (fun w2 o2 f2 => v127_39 (v127_41 ⟨fun s => by omega, fun _ => ⟨fun s => by omega, fun _ => ⟨fun _ => ?_, fun s => by omega⟩⟩⟩))
    rw [s0, List.nil_append] at o2
    rw [if_neg (by omega), if_pos q1] at h
    exact c70 w2 _ (by rw [List.length_take]; omega) o2 (f1.c.trans f2.c) h
  · have q0 : np (val D e 0) = 0 := by omega
    refine s114 (by omega) (key_of hD (f1.db hv) he) (by decide) (hO.frB f1) (by have := (hD.2.2.1 e).1; show 0 + _ ≤ _; omega) (fun w2 o2 f2 => v127_23 (v127_39 (v127_41 ⟨fun _ => ?_, fun s => by omega⟩)))
    rw [List.nil_append] at o2
    rw [if_pos q0] at h
    exact c70 w2 _ (by rw [List.length_take]; show min 3 _ ≤ _; omega) o2 (f1.c.trans f2.c) h
theorem s128 {e : Nat} {al : Bool} (hD : DOK D) (hv : RDb v D) (he : e < dN D) (hO : One v []) (h : ∀ w, One w (lgB D al e) → FrC v w → Q (Sum.inl none) w) : RW g C S m A 128 0 [some (.ref m), some (.int (iI e)), some (.int (iI (if al = true then 1 else 0))), none, none] [] v Q := by
  have hd := hD.1
  have hal : (0 : Int) ≤ (if al = true then 1 else 0) ∧ (if al = true then (1 : Int) else 0) ≤ 1 := by split <;> omega
  refine v128_0 (s110 hD hv he (Or.inl rfl) (fun w1 t1 n1 f1 => v128_6 ?_ (hx2 := by omega))) (hx2 := by omega)
  have ht := val_ok hD e 0
  have hn := np40 ht.1
  have hy := val_ok hD e 2
  unfold lgB at h
  rw [n1]
  obtain ⟨x0, x1, x2⟩ := tgs_sel (val D e 0) 0
  obtain ⟨y0, y1, y2⟩ := tgs_sel (val D e 0) 1
  have x0 : sel (tgs (val D e 0)) 0 0 = gv (val D e 0) 0 := x0
  have x1 : sel (tgs (val D e 0)) 0 1 = pa (val D e 0) 0 := x1
  have x2 : sel (tgs (val D e 0)) 0 2 = fa (val D e 0) 0 := x2
  have y1 : sel (tgs (val D e 0)) 1 1 = pa (val D e 0) 1 := y1
  have y2 : sel (tgs (val D e 0)) 1 2 = fa (val D e 0) 1 := y2
  have kp := pa_K (val D e 0)
  have kf := fa_K (val D e 0)
  have kg := (gv_K (val D e 0) 0).len
  have c89 : ∀ (w : VS) (a : List Int) {l2 l3 l4 : Option Value}, a.length ≤ 800 → One w a → FrC v w → (∀ w, One w (a ++ (if val D e 2 = [] then [] else 32 :: val D e 2)) → FrC v w → Q (Sum.inl none) w) → RW g C S m A 128 89 [some (.ref m), some (.int (iI e)), l2, l3, l4] [] w Q := fun w a l2 l3 l4 ha hw hf hq => by
    refine v128_89 (s103 hD (hf.db hv) he (by decide) (fun r hr => ?_))
    have hr5 := hr.s
    refine v128_95 ⟨fun q => v128_115 (hq w ?_ hf), fun q => s111 hw (by omega) (by decide) (fun w2 o2 f2 => v128_109 ?_ (hx4 := by omega))⟩ (hu0 := by omega)
    · rcases hr with ⟨q1, q2⟩ | ⟨q1, -⟩
      · rw [if_pos q2, List.append_nil]; exact hw
      · omega
    · refine s113 ((hr.fr (fun j _ _ => f2 j (by omega) (by omega))).s) o2 (by rw [List.length_append]; show _ + 1 + _ ≤ _; omega) (fun w3 o3 f3 => v128_115 (hq w3 ?_ ((hf.trans f2.c).trans f3.c)))
      rcases hr with ⟨q1, q2⟩ | ⟨-, -, -, -, q2⟩
      · exact absurd q1 q
      · rw [if_neg q2]
        rw [List.append_assoc] at o3
        exact o3
  have c59 : ∀ (w : VS) (a : List Int) {l2 l4 : Option Value}, a.length ≤ 500 → One w a → FrC v w → FrO w1 w → (∀ w, One w (a ++ (if np (val D e 0) = 2 then tx 1 ++ nm (val D e 0) 1 else if 2 < np (val D e 0) then tx 2 else []) ++ (if val D e 2 = [] then [] else 32 :: val D e 2)) → FrC v w → Q (Sum.inl none) w) → RW g C S m A 128 59 [some (.ref m), some (.int (iI e)), l2, some (.int (iI (np (val D e 0)))), l4] [] w Q := fun w a l2 l4 ha hw hf hfo hq => by
    have htx := tx_l
    refine v128_59 ⟨fun q => ?_, fun q => ?_⟩
    · rw [if_neg (by omega)] at hq
      refine v128_77 ⟨fun q1 => c89 w a (by omega) hw hf ?_, fun q1 => s112 (by decide) hw (by rw [by_etal]; omega) (fun w2 o2 f2 => c89 w2 _ (by rw [List.length_append, by_etal]; omega) o2 (hf.trans f2.c) ?_)⟩
      · rw [if_neg (by omega), List.append_nil] at hq
        exact hq
      · rw [if_pos (by omega)] at hq
        rw [by_etal]
        exact hq
    · rw [if_pos (by omega)] at hq
      have b1 := (kp 1).1
      have b2 := (kf 1).1
      refine s112 (by decide) hw (by rw [by_and]; omega) (fun w2 o2 f2 => v128_71 ?_)
      rw [by_and] at o2
      refine s117 (p := 1) (t1.fr (hfo.trans f2)) (by decide) o2 (by rw [y1, y2, List.length_append]; omega) (fun w3 o3 f3 => v128_77 ⟨fun _ => ?_, fun q1 => by omega⟩)
      rw [y1, y2, List.append_assoc] at o3
      have hnl := nm_len (val D e 0) 1
      refine c89 w3 _ ?_ o3 ((hf.trans f2.c).trans f3.c) hq
      have : (jn (pa (val D e 0) 1 ++ fa (val D e 0) 1)).length = (nm (val D e 0) 1).length := rfl
      rw [List.length_append, List.length_append, this]
      omega
  refine ⟨by decide, fun q => ?_, fun q => ?_⟩
  · rw [if_neg (by omega)] at h
    have b1 := (kp 0).1
    have b2 := (kf 0).1
    have c53 : ∀ (w : VS) (a : List Int) {l2 l4 : Option Value}, a.length ≤ 130 → One w a → FrO w1 w → (∀ w, One w (a ++ nm (val D e 0) 0 ++ (if np (val D e 0) = 2 then tx 1 ++ nm (val D e 0) 1 else if 2 < np (val D e 0) then tx 2 else []) ++ (if val D e 2 = [] then [] else 32 :: val D e 2)) → FrC v w → Q (Sum.inl none) w) → RW g C S m A 128 53 [some (.ref m), some (.int (iI e)), l2, some (.int (iI (np (val D e 0)))), l4] [] w Q := fun w a l2 l4 ha hw hfo hq => by
      refine v128_53 (s117 (p := 0) (t1.fr hfo) (by decide) hw (by rw [x1, x2]; omega) (fun w3 o3 f3 => ?_))
      rw [x1, x2] at o3
      have hnl := nm_len (val D e 0) 0
      exact c59 w3 _ (by rw [List.length_append]; have : (jn (pa (val D e 0) 0 ++ fa (val D e 0) 0)).length = (nm (val D e 0) 0).length := rfl; omega) o3 (f1.c.trans (hfo.trans f3).c) (hfo.trans f3) hq
    refine ⟨fun q1 => ?_, fun q1 => ?_⟩
    · have ha : ¬ al = true := fun r => by rw [if_pos r] at q1; omega
      rw [if_neg (fun r => ha r.1), List.nil_append] at h
      exact c53 w1 [] (Nat.zero_le _) (hO.frB f1) FrO.rfl h
    · have ha : al = true := Decidable.of_not_not fun r => by rw [if_neg r] at q1; exact q1 rfl
      refine s116 (p := 0) (q := 0) t1 (by decide) (by decide) ?_
      rw [x0]
      refine v128_38 ⟨fun q2 => ?_, fun q2 => ?_⟩ (hu0 := by split <;> omega)
      · have hg : gv (val D e 0) 0 = [] := Decidable.of_not_not fun r => by rw [if_neg r] at q2; omega
        rw [if_neg (fun r => r.2 hg), List.nil_append] at h
        exact c53 w1 [] (Nat.zero_le _) (hO.frB f1) FrO.rfl h
      · have hg : ¬ gv (val D e 0) 0 = [] := fun r => by rw [if_pos r] at q2; exact q2 rfl
        rw [if_pos ⟨ha, hg⟩] at h
        have il := inits_len (ws := gv (val D e 0) 0)
        refine s118 (p := 0) t1 (by decide) (hO.frB f1) (by rw [x0]; show 0 + _ ≤ _; omega) (fun w2 o2 f2 => v128_47 ?_)
        rw [x0, List.nil_append] at o2
        refine s111 o2 (by omega) (by decide) (fun w3 o3 f3 => c53 w3 _ ?_ o3 (f2.trans f3) h)
        rw [List.length_append]; show _ + 1 ≤ _; omega
  · have q0 : np (val D e 0) = 0 := by omega
    rw [if_pos q0] at h
    have hk := (hD.2.2.1 e).1
    refine s114 (by omega) (key_of hD (f1.db hv) he) (by decide) (hO.frB f1) (by show 0 + _ ≤ _; omega) (fun w2 o2 f2 => v128_24 ?_)
    rw [List.nil_append, List.take_of_length_le (by show _ ≤ 16; omega)] at o2
    exact c59 w2 _ (by omega) o2 (f1.c.trans f2.c) f2 h
/-- bases -/
def FrM (k : Nat) (v w : VS) : Prop := (∀ j, (j < 13 ∨ 23 < j) → ¬ j = 28 → ¬ j = 29 → w j = v j) ∧ (∀ x : Int, ¬ x = k → w 28 x = v 28 x) ∧ ∀ x : Int, (x < 400 * k ∨ 400 * k + 400 ≤ x) → w 29 x = v 29 x
theorem FrC.mb {v w : VS} {k : Nat} (h : FrC v w) : FrM k v w := ⟨fun j hj _ _ => h j hj, fun x _ => by rw [h 28 (by omega)], fun x _ => by rw [h 29 (by omega)]⟩
theorem FrM.trans {v w u : VS} {k : Nat} (h : FrM k v w) (h' : FrM k w u) : FrM k v u := ⟨fun j h1 h2 h3 => (h'.1 j h1 h2 h3).trans (h.1 j h1 h2 h3), fun x hx => (h'.2.1 x hx).trans (h.2.1 x hx), fun x hx => (h'.2.2 x hx).trans (h.2.2 x hx)⟩
def Bsx (v : VS) (k : Nat) (b : List Int) : Prop := v 28 k = b.length ∧ b.length ≤ 400 ∧ Hd (v 29) (400 * (k : Int)) b
theorem s129 {k : Nat} {L : List Nat} {lb : Int} (hD : DOK D) (hv : RDb v D) (hL : Rws v L) (hLn : ∀ x, x ∈ L → x < dN D) (hk : k < L.length) (hlb : v 12 0 = lb) (h : ∀ w, Bsx w k (base D lb L (L.getD k 0)) → FrM k v w → Q (Sum.inl none) w) : RW g C S m A 129 0 [some (.ref m), some (.int (iI k)), none, none, none] [] v Q := by
  have hd := hD.1
  have h24 := hL.2.1
  have hr := hL.2.2 k hk
  have he : L.getD k 0 < dN D := hLn _ (mem_gD hk)
  have hbl := base_len hD lb L (L.getD k 0)
  generalize hE : L.getD k 0 = E at *
  have cp : ∀ (w : VS) (b : List Int) {l2 l3 l4 : Option Value}, b = base D lb L E → One w b → FrC v w → RW g C S m A 129 64 [some (.ref m), some (.int (iI k)), l2, l3, l4] [] w Q := fun w b l2 l3 l4 hb hw hf => by
    rw [← hb] at h hbl
    have h21 := hw.1
    refine v129_64 ⟨by omega, fun w2 e2 => ?_⟩
    have loop : ∀ (n i : Nat) (u : VS) {l2 l3 : Option Value}, b.length - i = n → i ≤ b.length → FrM k v u → u 28 k = b.length → One u b → Hd (u 29) (400 * (k : Int)) (b.take i) → RW g C S m A 129 77 [some (.ref m), some (.int (iI k)), l2, l3, some (.int (iI i))] [] u Q := by
      intro n
      induction n with
      | zero =>
        intro i u l2 l3 i1 i2 hfu h28 hu hh
        have := hu.1
        rw [List.take_of_length_le (by omega)] at hh
        exact v129_77 ⟨fun _ => h u ⟨h28, by omega, hh⟩ hfu, fun q => by omega⟩
      | succ n ih =>
        intro i u l2 l3 i1 i2 hfu h28 hu hh
        have h21 := hu.1
        have h20 := hu.2.at0 (x := i) (by omega)
        rw [Int.toNat_natCast] at h20
        refine v129_77 ⟨fun q => by omega, fun _ => ⟨by omega, by omega, by omega, by omega, fun w5 e5 => ⟨by omega, ?_⟩⟩⟩
        have k29 : ∀ x, w5 29 x = if x = 400 * (k : Int) + i then u 20 i else u 29 x := fun x => by rw [e5, uv_s]
        have ko : ∀ j, ¬ j = 29 → w5 j = u j := fun j hj => by rw [e5, uv_j hj]
        have htl : (b.take i).length = i := by rw [List.length_take]; omega
        refine ih (i + 1) w5 (by omega) (by omega) (hfu.trans ⟨fun j _ _ q => ko j q, fun x _ => by rw [ko 28 (by decide)], fun x hx => by rw [k29, if_neg (by omega)]⟩) (by rw [ko 28 (by decide)]; exact h28) ⟨by rw [ko 21 (by decide)]; exact h21, by rw [ko 20 (by decide)]; exact hu.2⟩ ?_
        rw [take_snoc (d := 0) (by omega), ← h20]
        refine hh.app (fun j hj => ?_) ?_
        · rw [htl] at hj
          rw [k29, if_neg (by omega)]
        · rw [htl, k29, if_pos rfl]
    have ko : ∀ j, ¬ j = 28 → w2 j = w j := fun j hj => by rw [e2, uv_j hj]
    refine loop _ 0 w2 rfl (Nat.zero_le _) (hf.mb.trans ⟨fun j _ q _ => ko j q, fun x hx => by rw [e2, uv_s, if_neg hx], fun x _ => by rw [ko 29 (by decide)]⟩) (by rw [e2, uv_s, if_pos rfl]; exact h21) ⟨by rw [ko 21 (by decide)]; exact h21, by rw [ko 20 (by decide)]; exact hw.2⟩ (fun i hi => absurd hi (Nat.not_lt_zero _))
  have c28 : ∀ (w : VS) (al : Bool) {l3 l4 : Option Value}, FrC v w → (lb = 2 → al = alk D L E) → RW g C S m A 129 28 [some (.ref m), some (.int (iI k)), some (.int (iI E)), l3, l4] [.int (iI (if al = true then 1 else 0))] w Q := fun w al l3 l4 hf hal => by
    have hal01 : (0 : Int) ≤ (if al = true then 1 else 0) ∧ (if al = true then (1 : Int) else 0) ≤ 1 := by split <;> omega
    refine v129_28 (fun w1 e1 => ?_) (hx2 := by omega) (hu0 := by omega)
    obtain ⟨o1, f1⟩ := One.z e1
    have hf1 : FrC v w1 := hf.trans f1.c
    have h12 : w1 12 0 = lb := by rw [hf1 12 (by omega)]; exact hlb
    rw [h12]
    refine ⟨fun q1 => ⟨fun q2 => cp w1 [] ?_ o1 hf1, fun q2 => s128 (al := al) hD (hf1.db hv) he o1 (fun w2 o2 f2 => cp w2 _ ?_ o2 (hf1.trans f2))⟩, fun q1 => s127 hD (hf1.db hv) he o1 (fun w2 o2 f2 => v129_47 (cp w2 _ ?_ o2 (hf1.trans f2)))⟩
    · unfold base; rw [if_neg q1, if_neg q2]
    · unfold base; rw [if_neg q1, if_pos q2, hal q2]
    · unfold base; rw [if_pos q1]
  refine v129_0 ?_
  rw [hr, hlb]
  refine ⟨by omega, fun q => v129_27 (c28 v false FrC.rfl (fun r => absurd r q)) (hx2 := by omega), fun q => s126 hD hv he hL hLn (fun w hf => v129_20 ⟨fun r => v129_27 ?_ (hx2 := by omega), fun r => ?_⟩ (hx2 := by omega) (hu0 := by split <;> omega))⟩
  · have ha : alk D L E = false := by
      cases hb : alk D L E with
      | false => rfl
      | true => rw [hb, if_pos rfl] at r; omega
    exact c28 w false hf (fun _ => ha.symm)
  · have ha : alk D L E = true := Decidable.of_not_not fun s => by rw [if_neg s] at r; exact r rfl
    exact c28 w true hf (fun _ => ha.symm)
def Bss (v : VS) (Bs : List (List Int)) : Prop := ∀ k : Nat, k < Bs.length → Bsx v k (Bs.getD k [])
theorem s130 {k j : Nat} {Bs : List (List Int)} (hB : Bss v Bs) (h24 : Bs.length ≤ 24) (hk : k < Bs.length) (hj : j < Bs.length) (h : Q (Sum.inl (some (.int (iI (if Bs.getD k [] = Bs.getD j [] then 1 else 0))))) v) : RW g C S m A 130 0 [some (.ref m), some (.int (iI k)), some (.int (iI j)), none, none] [] v Q := by
  obtain ⟨a1, a2, a3⟩ := hB k hk
  obtain ⟨b1, b2, b3⟩ := hB j hj
  generalize Bs.getD k [] = a at *
  generalize Bs.getD j [] = b at *
  have fin : ∀ x : Int, x = (if a = b then 1 else 0) → ∀ {l0 l1 l2 l4 : Option Value}, RW g C S m A 130 80 [l0, l1, l2, some (.int (iI x)), l4] [] v Q := fun x hx l0 l1 l2 l4 => by
    have h01 : x = 0 ∨ x = 1 := by rw [hx]; split <;> omega
    rw [← hx] at h
    exact v130_80 ⟨h01, h⟩
  have loop : ∀ (n i : Nat) (x : Int), a.length - i = n → i ≤ a.length → ((x = 1 ∧ a.length = b.length ∧ a.take i = b.take i) ∨ (x = 0 ∧ ¬ a = b)) → RW g C S m A 130 24 [some (.ref m), some (.int (iI k)), some (.int (iI j)), some (.int (iI x)), some (.int (iI i))] [] v Q := by
    intro n
    induction n with
    | zero =>
      intro i x i1 i2 hx
      refine v130_24 ⟨by omega, fun _ => fin x ?_, fun q => by omega⟩
      rcases hx with ⟨q1, q2, q3⟩ | ⟨q1, q2⟩
      · rw [List.take_of_length_le (by omega), List.take_of_length_le (by omega)] at q3
        rw [if_pos q3, q1]
      · rw [if_neg q2, q1]
    | succ n ih =>
      intro i x i1 i2 hx
      rcases hx with ⟨q1, q2, q3⟩ | ⟨q1, q2⟩
      · have u1 := a3 i (by omega)
        have u2 := b3 i (by omega)
        refine v130_24 ⟨by omega, fun q => by omega, fun _ => ⟨fun q => by omega, fun _ => ⟨by omega, by omega, by omega, by omega, by omega, by omega, fun r => v130_73 ⟨by omega, ih (i + 1) 0 (by omega) (by omega) (Or.inr ⟨rfl, fun s => r (by rw [u1, u2, s])⟩)⟩, fun r => v130_73 ⟨by omega, ih (i + 1) 1 (by omega) (by omega) (Or.inl ⟨rfl, q2, ?_⟩)⟩⟩⟩⟩
        rw [take_snoc (d := 0) (by omega), take_snoc (d := 0) (by omega), q3, ← u1, ← u2, r]
      · refine v130_24 ⟨by omega, fun q => by omega, fun _ => ⟨fun _ => fin x (by rw [if_neg q2, q1]), fun q => absurd q1 q⟩⟩
  refine v130_0 ⟨by omega, by omega, fun q => v130_20 (loop _ 0 0 rfl (Nat.zero_le _) (Or.inr ⟨rfl, fun s => q (by rw [a1, b1, s])⟩)), fun q => v130_20 (loop _ 0 1 rfl (Nat.zero_le _) (Or.inl ⟨rfl, by omega, rfl⟩))⟩
theorem count_snoc (l : List (List Int)) (x b : List Int) : (l ++ [x]).count b = l.count b + if x = b then 1 else 0 := by
  rw [List.count_append]
  congr 1
  by_cases h : x = b
  · rw [if_pos h, h]; simp
  · rw [if_neg h]; simp [h]
theorem s131 {Bs : List (List Int)} (hB : Bss v Bs) (hn : v 25 0 = Bs.length) (h24 : Bs.length ≤ 24) (h : ∀ w : VS, (∀ k : Nat, k < Bs.length → w 27 (k : Int) = (ltr Bs k : Int)) → (∀ j, ¬ j = 27 → w j = v j) → Q (Sum.inl none) w) : RW g C S m A 131 0 [some (.ref m), none, none, none, none] [] v Q := by
  refine v131_0 ?_
  have outer : ∀ (n k : Nat) (u : VS) {l2 l3 l4 : Option Value}, Bs.length - k = n → k ≤ Bs.length → (∀ i : Nat, i < k → u 27 i = ltr Bs i) → (∀ j, ¬ j = 27 → u j = v j) → RW g C S m A 131 2 [some (.ref m), some (.int (iI k)), l2, l3, l4] [] u Q := by
    intro n
    induction n with
    | zero =>
      intro k u l2 l3 l4 k1 k2 hu hf
      have e25 : u 25 0 = Bs.length := by rw [hf 25 (by decide)]; exact hn
      exact v131_2 ⟨fun _ => h u (fun i hi => hu i (by omega)) hf, fun q => by omega⟩
    | succ n ih =>
      intro k u l2 l3 l4 k1 k2 hu hf
      have e25 : u 25 0 = Bs.length := by rw [hf 25 (by decide)]; exact hn
      have hBu : Bss u Bs := fun i hi => by
        have := hB i hi
        unfold Bsx at this ⊢
        rw [hf 28 (by decide), hf 29 (by decide)]
        exact this
      obtain ⟨a1, a2, a3⟩ := hBu k (by omega)
      refine v131_2 ⟨fun q => by omega, fun _ => ?_⟩
      have last : ∀ (x : Int) {l2 l3 l4 : Option Value}, x = ltr Bs k → (0 ≤ x ∧ x ≤ 100) → RW g C S m A 131 83 [some (.ref m), some (.int (iI k)), l2, l3, l4] [.int (iI x), .int (iI k), .ref (A 27)] u Q := fun x l2 l3 l4 hx hr => by
        refine v131_83 ⟨by omega, fun w2 e2 => ⟨by omega, ih (k + 1) w2 (by omega) (by omega) (fun i hi => ?_) (fun j hj => by rw [e2, uv_j hj]; exact hf j hj)⟩⟩
        rw [e2, uv_s]
        by_cases q : i = k
        · rw [if_pos (by omega), hx, q]
        · rw [if_neg (by omega)]; exact hu i (by omega)
      have inner : ∀ (n j : Nat) (bf all : Nat), Bs.length - j = n → j ≤ Bs.length → all = (Bs.take j).count (Bs.getD k []) → bf = (Bs.take (min j (k + 1))).count (Bs.getD k []) → all ≤ j → bf ≤ j → RW g C S m A 131 17 [some (.ref m), some (.int (iI k)), some (.int (iI bf)), some (.int (iI all)), some (.int (iI j))] [] u Q := by
        intro n
        induction n with
        | zero =>
          intro j bf all j1 j2 ha hb hl1 hl2
          rw [List.take_of_length_le (by omega)] at ha
          rw [show min j (k + 1) = k + 1 by omega] at hb
          refine v131_17 ⟨fun _ => ⟨by omega, fun q => v131_82 (last 0 ?_ (by omega)), fun q => ⟨fun q1 => v131_82 (last 0 ?_ (by omega)), fun q1 => last bf ?_ (by omega)⟩⟩, fun q => by omega⟩
          · unfold ltr
            rw [if_pos (List.eq_nil_of_length_eq_zero (by omega))]
            rfl
          · unfold ltr
            split
            · rfl
            · rw [if_pos (by omega)]; rfl
          · unfold ltr
            rw [if_neg (fun r => by rw [r] at a1; have : u 28 k = 0 := a1; omega), if_neg (by omega), hb]
        | succ n ih2 =>
          intro j bf all j1 j2 ha hb hl1 hl2
          have hts : (Bs.take (j + 1)).count (Bs.getD k []) = (Bs.take j).count (Bs.getD k []) + if Bs.getD j [] = Bs.getD k [] then 1 else 0 := by
            rw [take_snoc (d := []) (by omega), count_snoc]
          refine v131_17 ⟨fun q => by omega, fun _ => s130 hBu h24 (by omega) (by omega) ?_⟩
          refine v131_33 ⟨fun q => v131_53 ⟨by omega, ih2 (j + 1) bf all (by omega) (by omega) ?_ ?_ (by omega) (by omega)⟩, fun q => ⟨by omega, fun r => v131_52 (v131_53 ⟨by omega, ih2 (j + 1) bf (all + 1) (by omega) (by omega) ?_ ?_ (by omega) (by omega)⟩), fun r => ⟨by omega, v131_52 (v131_53 ⟨by omega, ih2 (j + 1) (bf + 1) (all + 1) (by omega) (by omega) ?_ ?_ (by omega) (by omega)⟩)⟩⟩⟩ (hu0 := by split <;> omega)
          · have hne : ¬ Bs.getD k [] = Bs.getD j [] := fun s => by rw [if_pos s] at q; omega
            rw [hts, if_neg (fun s => hne s.symm)]; omega
          · have hne : ¬ Bs.getD k [] = Bs.getD j [] := fun s => by rw [if_pos s] at q; omega
            by_cases r : j + 1 ≤ k + 1
            · rw [show min (j + 1) (k + 1) = j + 1 by omega, hts, if_neg (fun s => hne s.symm), hb, show min j (k + 1) = j by omega]
              rfl
            · rw [show min (j + 1) (k + 1) = k + 1 by omega, hb, show min j (k + 1) = k + 1 by omega]
          · have hq : Bs.getD k [] = Bs.getD j [] := Decidable.of_not_not fun s => by rw [if_neg s] at q; exact q rfl
            rw [hts, if_pos hq.symm]; omega
          · rw [show min (j + 1) (k + 1) = k + 1 by omega, hb, show min j (k + 1) = k + 1 by omega]
          · have hq : Bs.getD k [] = Bs.getD j [] := Decidable.of_not_not fun s => by rw [if_neg s] at q; exact q rfl
            rw [hts, if_pos hq.symm]; omega
          · have hq : Bs.getD k [] = Bs.getD j [] := Decidable.of_not_not fun s => by rw [if_neg s] at q; exact q rfl
            rw [show min (j + 1) (k + 1) = j + 1 by omega, hts, if_pos hq.symm, hb, show min j (k + 1) = j by omega]
      exact inner _ 0 0 0 rfl (Nat.zero_le _) rfl (by rw [show min 0 (k + 1) = 0 by omega]; rfl) (Nat.le_refl _) (Nat.le_refl _)
  exact outer _ 0 v rfl (Nat.zero_le _) (fun i hi => absurd hi (Nat.not_lt_zero _)) (fun _ _ => rfl)
end RBase
