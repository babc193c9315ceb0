/-! THE ROWS: each once, in the order of a style -/
def addN (L : List Nat) (e : Nat) : List Nat := if e ∈ L then L else L ++ [e]
def lst1 (D : Db) (F : List Nat) : List Nat := F.foldl (fun L e => addN L (real D e)) []
theorem lst1_snoc (D : Db) (F : List Nat) (e : Nat) : lst1 D (F ++ [e]) = addN (lst1 D F) (real D e) := by
  unfold lst1
  rw [List.foldl_append]
  rfl
theorem addN_mem {L : List Nat} {e x : Nat} : x ∈ addN L e ↔ x ∈ L ∨ x = e := by
  unfold addN
  split
  · next h => exact ⟨Or.inl, fun q => q.elim id (fun r => r ▸ h)⟩
  · rw [List.mem_append, List.mem_singleton]
/-- distinct, below n -/
def DL (n : Nat) (L : List Nat) : Prop := L.Nodup ∧ ∀ x, x ∈ L → x < n
theorem DL.len {n : Nat} {L : List Nat} (h : DL n L) : L.length ≤ n := by
  have : ∀ (n : Nat) (L : List Nat), L.Nodup → (∀ x, x ∈ L → x < n) → L.length ≤ n := by
    intro n
    induction n with
    | zero =>
      intro L _ h2
      cases L with
      | nil => exact Nat.le_refl _
      | cons x xs => exact absurd (h2 x List.mem_cons_self) (Nat.not_lt_zero _)
    | succ n ih =>
      intro L h1 h2
      have h3 := ih (L.erase n) (h1.erase n) (fun x hx => by
        have hx1 := (List.Nodup.mem_erase_iff h1).mp hx
        have := h2 x hx1.2
        have := hx1.1
        omega)
      by_cases q : n ∈ L
      · rw [List.length_erase_of_mem q] at h3
        omega
      · rw [List.erase_of_not_mem q] at h3
        omega
  exact this n L h.1 h.2
theorem addN_DL {n e : Nat} {L : List Nat} (h : DL n L) (he : e < n) : DL n (addN L e) := by
  refine ⟨?_, fun x hx => (addN_mem.mp hx).elim (h.2 x) (fun q => q ▸ he)⟩
  unfold addN
  split
  · exact h.1
  · next q =>
    rw [List.nodup_append]
    refine ⟨h.1, by simp, fun a ha b hb => ?_⟩
    rw [List.mem_singleton.mp hb]
    exact fun r => q (r ▸ ha)
theorem lst1_DL {D : Db} {F : List Nat} (hF : ∀ x, x ∈ F → x < dN D) : DL (dN D) (lst1 D F) := by
  have : ∀ (F L : List Nat), (∀ x, x ∈ F → x < dN D) → DL (dN D) L → DL (dN D) (F.foldl (fun L e => addN L (real D e)) L) := by
    intro F
    induction F with
    | nil => intro L _ h; exact h
    | cons x xs ih =>
      intro L hF h
      refine ih _ (fun y hy => hF y (List.mem_cons_of_mem _ hy)) (addN_DL h ?_)
      have := real_le D x
      have := hF x List.mem_cons_self
      omega
  exact this F [] hF ⟨List.nodup_nil, fun x hx => (by cases hx)⟩
/-- where e is put among L, from a down -/
def inp (gt : Nat → Nat → Bool) (L : List Nat) (e : Nat) : Nat → Nat
  | 0 => 0
  | a + 1 => if gt (L.getD a 0) e = true then inp gt L e a else a + 1
def ins (gt : Nat → Nat → Bool) (L : List Nat) (e : Nat) : List Nat := L.take (inp gt L e L.length) ++ e :: L.drop (inp gt L e L.length)
def srt (gt : Nat → Nat → Bool) (L : List Nat) : List Nat := L.foldl (ins gt) []
theorem srt_snoc (gt : Nat → Nat → Bool) (L : List Nat) (e : Nat) : srt gt (L ++ [e]) = ins gt (srt gt L) e := by
  unfold srt
  rw [List.foldl_append]
  rfl
theorem inp_le {gt : Nat → Nat → Bool} {L : List Nat} {e : Nat} : ∀ a, inp gt L e a ≤ a
  | 0 => Nat.le_refl _
  | a + 1 => by
    unfold inp
    split
    · have := inp_le (gt := gt) (L := L) (e := e) a
      omega
    · exact Nat.le_refl _
theorem ins_perm (gt : Nat → Nat → Bool) (L : List Nat) (e : Nat) : List.Perm (ins gt L e) (e :: L) := by
  unfold ins
  have h := List.perm_middle (a := e) (l₁ := L.take (inp gt L e L.length)) (l₂ := L.drop (inp gt L e L.length))
  rw [List.take_append_drop] at h
  exact h
theorem srt_perm (gt : Nat → Nat → Bool) (L : List Nat) : List.Perm (srt gt L) L := by
  have : ∀ (L M : List Nat), List.Perm (L.foldl (ins gt) M) (M ++ L) := by
    intro L
    induction L with
    | nil => intro M; rw [List.append_nil]; exact List.Perm.refl _
    | cons x xs ih =>
      intro M
      refine (ih (ins gt M x)).trans ?_
      refine ((ins_perm gt M x).append_right xs).trans ?_
      exact (List.perm_middle (a := x) (l₁ := M) (l₂ := xs)).symm
  have h := this L []
  exact h
theorem srt_DL {gt : Nat → Nat → Bool} {n : Nat} {L : List Nat} (h : DL n L) : DL n (srt gt L) :=
  ⟨(srt_perm gt L).nodup_iff.mpr h.1, fun x hx => h.2 x ((srt_perm gt L).mem_iff.mp hx)⟩
theorem srt_len (gt : Nat → Nat → Bool) (L : List Nat) : (srt gt L).length = L.length := (srt_perm gt L).length_eq
def rowsOf (D : Db) (s : Int) (F : List Nat) : List Nat := if s = 0 then lst1 D F else srt (fun a b => decide (0 < ord D s a b)) (lst1 D F)
theorem rowsOf_DL {D : Db} {s : Int} {F : List Nat} (hF : ∀ x, x ∈ F → x < dN D) : DL (dN D) (rowsOf D s F) := by
  unfold rowsOf
  split
  · exact lst1_DL hF
  · exact srt_DL (lst1_DL hF)
/-- while e goes down: P with a gap at a, then rest -/
def gap (P : List Nat) (a : Nat) (f : Nat → Nat) : Prop := (∀ i, i < a → f i = P.getD i 0) ∧ ∀ i, a ≤ i → i < P.length → f (i + 1) = P.getD i 0
theorem gap_ins {gt : Nat → Nat → Bool} {P : List Nat} {e a : Nat} {f : Nat → Nat} (h : gap P a f) (ha : inp gt P e P.length = a) (he : f a = e) : ∀ i, i < P.length + 1 → f i = (ins gt P e).getD i 0 := by
  intro i hi
  have hal : a ≤ P.length := by rw [← ha]; exact inp_le _
  unfold ins
  rw [ha]
  have htl : (P.take a).length = a := by rw [List.length_take]; omega
  by_cases q : i < a
  · rw [gA_lt (by omega), h.1 i q, List.getD_eq_getElem?_getD, List.getD_eq_getElem?_getD, List.getElem?_take_of_lt q]
  · rw [gA_ge (by omega), htl]
    by_cases q2 : i = a
    · rw [q2, Nat.sub_self, he]
      rfl
    · obtain ⟨j, rfl⟩ : ∃ j, i = j + 1 := ⟨i - 1, by omega⟩
      rw [h.2 j (by omega) (by omega), show j + 1 - a = (j - a) + 1 by omega]
      show _ = (P.drop a).getD (j - a) 0
      rw [List.getD_eq_getElem?_getD, List.getD_eq_getElem?_getD, List.getElem?_drop, show a + (j - a) = j by omega]
/-- what was cited first -/
def Fst (v : VS) (F : List Nat) : Prop := v 9 0 = F.length ∧ F.length ≤ 24 ∧ ∀ i : Nat, i < F.length → v 10 i = (F.getD i 0 : Nat)
def FrL (v w : VS) : Prop := ∀ j, (j < 13 ∨ 23 < j) → ¬ j = 25 → ¬ j = 26 → w j = v j
theorem FrL.rfl {v : VS} : FrL v v := fun _ _ _ _ => by rfl
theorem FrL.trans {v w u : VS} (h : FrL v w) (h' : FrL w u) : FrL v u := fun j h1 h2 h3 => (h' j h1 h2 h3).trans (h j h1 h2 h3)
theorem FrC.l {v w : VS} (h : FrC v w) : FrL v w := fun j hj _ _ => h j hj
theorem FrL.db {v w : VS} {D : Db} (h : RDb v D) (hf : FrL v w) : RDb w D := h.fr (fun j _ _ => hf j (by omega) (by omega) (by omega))
theorem Fst.fr {v w : VS} {F : List Nat} (h : Fst v F) (hf : FrL v w) : Fst w F := by
  unfold Fst
  rw [hf 9 (by omega) (by omega) (by omega), hf 10 (by omega) (by omega) (by omega)]
  exact h
section RList
variable {g : Nat → Nat} {C S m : Nat} {A : Nat → Nat} {v : VS} {Q : Rs → VS → Prop} {D : Db}
theorem s125 {F : List Nat} {s : Int} (hD : DOK D) (hv : RDb v D) (hF : Fst v F) (hFn : ∀ x, x ∈ F → x < dN D) (hs : v 11 0 = s) (hs0 : 0 ≤ s ∧ s ≤ 2) (h : ∀ w, Rws w (rowsOf D s F) → FrL v w → Q (Sum.inl none) w) : RW g C S m A 125 0 [some (.ref m), none, none, none, none] [] v Q := by
  have hd := hD.1
  have h24 := hF.2.1
  have hDL1 := lst1_DL hFn
  have hL24 : (lst1 D F).length ≤ 24 := by have := hDL1.len; omega
  refine v125_0 (fun w1 e1 => ?_)
  have hf1 : FrL v w1 := fun j hj q1 q2 => by rw [e1, uv_j q1]
  -- putting in order
  have sortd : ∀ (u : VS) {l2 l3 l4 : Option Value}, FrL v u → Rws u (lst1 D F) → RW g C S m A 125 99 [some (.ref m), some (.int (iI 1)), l2, l3, l4] [] u Q := by
    by_cases hs1 : s = 0
    · intro u l2 l3 l4 hfu hu
      have hr : rowsOf D s F = lst1 D F := if_pos hs1
      rw [hr] at h
      have h11 : u 11 0 = s := by rw [hfu 11 (by omega) (by omega) (by omega)]; exact hs
      refine v125_99 ⟨fun _ => v125_176 (h u hu hfu), fun _ => ⟨fun _ => v125_176 (h u hu hfu), fun q => by omega⟩⟩
    · have hr : rowsOf D s F = srt (fun a b => decide (0 < ord D s a b)) (lst1 D F) := if_neg hs1
      rw [hr] at h
      generalize hL : lst1 D F = L at *
      have hgt : ∀ a b : Nat, (decide (0 < ord D s a b) = true) ↔ 0 < ord D s a b := fun a b => decide_eq_true_iff
      generalize hG : (fun a b : Nat => decide (0 < ord D s a b)) = gt at *
      have hgt : ∀ a b : Nat, gt a b = true ↔ 0 < ord D s a b := fun a b => by rw [← hG]; exact hgt a b
      have key : ∀ (n k : Nat) (u : VS) {l2 l3 l4 : Option Value}, L.length - k = n → 1 ≤ k → (k ≤ L.length ∨ L.length = 0 ∧ k = 1) → FrL v u → u 25 0 = L.length → (∀ i : Nat, i < k → i < L.length → u 26 i = ((srt gt (L.take k)).getD i 0 : Nat)) → (∀ i : Nat, k ≤ i → i < L.length → u 26 i = (L.getD i 0 : Nat)) → RW g C S m A 125 99 [some (.ref m), some (.int (iI k)), l2, l3, l4] [] u Q := by
        intro n
        induction n with
        | zero =>
          intro k u l2 l3 l4 k1 k2 k3 hfu h25 hlo hhi
          refine v125_99 ⟨fun _ => v125_176 (h u ⟨by rw [srt_len]; exact h25, by rw [srt_len]; omega, fun i hi => ?_⟩ hfu), fun q => by omega⟩
          rw [srt_len] at hi
          rw [hlo i (by omega) hi, List.take_of_length_le (by omega)]
        | succ n ih =>
          intro k u l2 l3 l4 k1 k2 k3 hfu h25 hlo hhi
          have h11 : u 11 0 = s := by rw [hfu 11 (by omega) (by omega) (by omega)]; exact hs
          have hkL : k < L.length := by omega
          have hek := hhi k (Nat.le_refl _) hkL
          have hlt : (L.take k).length = k := by rw [List.length_take]; omega
          have hPl : (srt gt (L.take k)).length = k := by rw [srt_len]; exact hlt
          have hsn : srt gt (L.take (k + 1)) = ins gt (srt gt (L.take k)) (L.getD k 0) := by rw [take_snoc (d := 0) hkL, srt_snoc]
          have hPm : ∀ x, x ∈ srt gt (L.take k) → x < dN D := fun x hx => hDL1.2 x (List.mem_of_mem_take ((srt_perm gt (L.take k)).mem_iff.mp hx))
          have hen : L.getD k 0 < dN D := hDL1.2 _ (mem_gD hkL)
          generalize srt gt (L.take k) = P at *
          generalize L.getD k 0 = E at *
          refine v125_99 ⟨fun q => by omega, fun _ => ⟨fun q => by omega, fun _ => ⟨by omega, ?_⟩⟩⟩
          rw [hek]
          have put : ∀ (a : Nat) (w : VS) {l4 : Option Value}, a ≤ k → FrL v w → w 25 0 = L.length → (∀ i : Nat, i < a → w 26 i = (P.getD i 0 : Nat)) → (∀ i : Nat, a ≤ i → i < k → w 26 ((i + 1 : Nat) : Int) = (P.getD i 0 : Nat)) → (∀ i : Nat, k < i → i < L.length → w 26 i = (L.getD i 0 : Nat)) → inp gt P E k = a → RW g C S m A 125 163 [some (.ref m), some (.int (iI k)), some (.int (iI E)), some (.int (iI a)), l4] [] w Q := by
            intro a w l4 ha hfw hw25 g1 g2 g3 hin
            refine v125_163 ⟨by omega, fun w' e' => ⟨by omega, ?_⟩⟩ (hx2 := by omega)
            have k26 : ∀ x, w' 26 x = if x = (a : Int) then (E : Int) else w 26 x := fun x => by rw [e', uv_s]
            refine ih (k + 1) w' (by omega) (by omega) (Or.inl (by omega)) (hfw.trans (fun j _ _ q => by rw [e', uv_j q])) (by rw [e', uv_j (by decide)]; exact hw25) (fun i hi hiL => ?_) (fun i hi hiL => ?_)
            · rw [hsn]
              have := gap_ins (gt := gt) (P := P) (e := E) (a := a) (f := fun i => if i = a then E else if i < a then P.getD i 0 else P.getD (i - 1) 0) ⟨fun i hi => by dsimp only; rw [if_neg (by omega), if_pos hi], fun i hi hi2 => by dsimp only; rw [if_neg (by omega), if_neg (by omega)]; rfl⟩ (by rw [hPl]; exact hin) (if_pos rfl) i (by omega)
              rw [k26, ← this]
              by_cases q : i = a
              · rw [if_pos (by omega), if_pos q]
              · rw [if_neg (by omega), if_neg q]
                by_cases q2 : i < a
                · rw [if_pos q2]; exact g1 i q2
                · obtain ⟨j, rfl⟩ : ∃ j, i = j + 1 := ⟨i - 1, by omega⟩
                  rw [if_neg q2]
                  exact g2 j (by omega) (by omega)
            · rw [k26, if_neg (by omega)]
              exact g3 i (by omega) hiL
          have down : ∀ (a : Nat) (w : VS) {l4 : Option Value}, a ≤ k → FrL v w → w 25 0 = L.length → (∀ i : Nat, i < a → w 26 i = (P.getD i 0 : Nat)) → (∀ i : Nat, a ≤ i → i < k → w 26 ((i + 1 : Nat) : Int) = (P.getD i 0 : Nat)) → (∀ i : Nat, k < i → i < L.length → w 26 i = (L.getD i 0 : Nat)) → inp gt P E k = inp gt P E a → RW g C S m A 125 123 [some (.ref m), some (.int (iI k)), some (.int (iI E)), some (.int (iI a)), l4] [] w Q := by
            intro a
            induction a with
            | zero =>
              intro w l4 ha hfw hw25 g1 g2 g3 hin
              exact v125_123 ⟨fun _ => put 0 w ha hfw hw25 g1 g2 g3 hin, fun q => by omega⟩ (hx2 := by omega)
            | succ a iha =>
              intro w l4 ha hfw hw25 g1 g2 g3 hin
              have hpa := g1 a (by omega)
              have hpn : P.getD a 0 < dN D := hPm _ (mem_gD (by omega))
              have e0 : ((a + 1 : Nat) : Int) - 1 = (a : Int) := by omega
              refine v125_123 ⟨fun q => by omega, fun _ => ⟨by omega, by omega, ?_⟩⟩ (hx2 := by omega)
              rw [e0, hpa]
              refine s124 (s := s) hD (hfw.db hv) hpn hen (by rw [hfw 11 (by omega) (by omega) (by omega)]; exact hs) (fun w2 f2 => ?_)
              have hg := hgt (P.getD a 0) E
              have hR : -70000 ≤ ord D s (P.getD a 0) E ∧ ord D s (P.getD a 0) E ≤ 70000 := by
                have r1 := cfl_R hD 1 (P.getD a 0) E
                have r2 := cfl_R hD 2 (P.getD a 0) E
                have r0 : -70000 ≤ opp (val D (P.getD a 0) 0) (val D E 0) ∧ opp (val D (P.getD a 0) 0) (val D E 0) ≤ 70000 := ops_R (val_ok hD _ 0) (val_ok hD _ 0) 41 0
                unfold ord thn
                (repeat' split) <;> omega
              have e26 : w2 26 = w 26 := f2 26 (by omega)
              have hfw2 := hfw.trans f2.l
              have h25' : w2 25 0 = L.length := by rw [f2 25 (by omega)]; exact hw25
              have hstep : inp gt P E (a + 1) = if gt (P.getD a 0) E = true then inp gt P E a else a + 1 := rfl
              refine v125_140 ⟨fun q => ?_, fun q => ⟨by omega, by omega, by omega, fun w3 e3 => ⟨by omega, ?_⟩⟩⟩ (hx2 := by omega) (hu0 := by omega)
              · refine put (a + 1) w2 ha hfw2 h25' (fun i hi => by rw [e26]; exact g1 i hi) (fun i i1 i2 => by rw [e26]; exact g2 i i1 i2) (fun i i1 i2 => by rw [e26]; exact g3 i i1 i2) ?_
                rw [hin, hstep, if_neg (fun r => by have := hg.mp r; omega)]
              · rw [e0, e26, hpa] at e3
                rw [show ((a + 1 : Nat) : Int) + (-1) = (a : Int) by omega]
                have k26 : ∀ x, w3 26 x = if x = ((a + 1 : Nat) : Int) then ((P.getD a 0 : Nat) : Int) else w 26 x := fun x => by rw [e3, uv_s, e26]
                refine iha w3 (by omega) (hfw2.trans (fun j _ _ q => by rw [e3, uv_j q])) (by rw [e3, uv_j (by decide)]; exact h25') (fun i hi => ?_) (fun i i1 i2 => ?_) (fun i i1 i2 => ?_) ?_
                · rw [k26, if_neg (by omega)]; exact g1 i (by omega)
                · rw [k26]
                  by_cases r : i = a
                  · rw [r, if_pos rfl]
                  · rw [if_neg (by omega)]; exact g2 i (by omega) i2
                · rw [k26, if_neg (by omega)]; exact g3 i i1 i2
                · rw [hin, hstep, if_pos (hg.mpr q)]
          exact down k u (Nat.le_refl _) hfu h25 (fun i hi => hlo i hi (by omega)) (fun i i1 i2 => by omega) (fun i i1 i2 => hhi i (by omega) i2) rfl
      intro u l2 l3 l4 hfu hu
      refine key _ 1 u rfl (Nat.le_refl _) (by omega) hfu hu.1 (fun i hi hiL => ?_) (fun i _ hiL => hu.2.2 i hiL)
      have : srt gt (L.take 1) = L.take 1 := by
        cases L with
        | nil => rfl
        | cons x xs => rfl
      rw [this, hu.2.2 i hiL, show i = 0 by omega]
      cases L with
      | nil => rfl
      | cons x xs => rfl
  -- each once
  have key : ∀ (n k : Nat) (u : VS) {l2 l3 l4 : Option Value}, F.length - k = n → k ≤ F.length → FrL v u → Rws u (lst1 D (F.take k)) → RW g C S m A 125 7 [some (.ref m), some (.int (iI k)), l2, l3, l4] [] u Q := by
    intro n
    induction n with
    | zero =>
      intro k u l2 l3 l4 k1 k2 hfu hu
      rw [List.take_of_length_le (by omega)] at hu
      have h9 := (hF.fr hfu).1
      exact v125_7 ⟨fun _ => sortd u hfu hu, fun q => by omega⟩
    | succ n ih =>
      intro k u l2 l3 l4 k1 k2 hfu hu
      have h9 := (hF.fr hfu).1
      have h10 := (hF.fr hfu).2.2 k (by omega)
      have hFk : F.getD k 0 < dN D := hFn _ (mem_gD (by omega))
      have hrl := real_le D (F.getD k 0)
      have hsn : lst1 D (F.take (k + 1)) = addN (lst1 D (F.take k)) (real D (F.getD k 0)) := by rw [take_snoc (d := 0) (by omega), lst1_snoc]
      have hDLk : DL (dN D) (lst1 D (F.take k)) := lst1_DL (fun x hx => hFn x (List.mem_of_mem_take hx))
      have hDLk' : DL (dN D) (lst1 D (F.take (k + 1))) := lst1_DL (fun x hx => hFn x (List.mem_of_mem_take hx))
      have hl' := hDLk'.len
      refine v125_7 ⟨fun q => by omega, fun _ => ⟨by omega, ?_⟩⟩
      rw [h10]
      refine s104 hD (hfu.db hv) hFk (v125_25 ?_ (hu0 := by omega))
      generalize real D (F.getD k 0) = E at *
      generalize lst1 D (F.take k) = L at *
      obtain ⟨u25, uL, u26⟩ := hu
      have inner : ∀ (n i : Nat) (x3 : Int), L.length - i = n → i ≤ L.length → x3 = (if E ∈ L.take i then 1 else 0) → RW g C S m A 125 31 [some (.ref m), some (.int (iI k)), some (.int (iI E)), some (.int (iI x3)), some (.int (iI i))] [] u Q := by
        intro n
        induction n with
        | zero =>
          intro i x3 i1 i2 i3
          rw [List.take_of_length_le (by omega)] at i3
          have h01 : x3 = 0 ∨ x3 = 1 := by rw [i3]; split <;> omega
          refine v125_31 ⟨fun _ => ⟨fun q => v125_91 ⟨by omega, ih (k + 1) u (by omega) (by omega) hfu ?_⟩, fun q => ?_⟩, fun q => by omega⟩ (hx2 := by omega)
          · have hm : E ∈ L := Decidable.of_not_not fun r => by rw [if_neg r] at i3; exact q i3
            rw [hsn]
            unfold addN
            rw [if_pos hm]
            exact ⟨u25, uL, u26⟩
          · have hm : ¬ E ∈ L := fun r => by rw [if_pos r] at i3; omega
            have hN : addN L E = L ++ [E] := by unfold addN; rw [if_neg hm]
            rw [hsn, hN, List.length_append] at hl'
            have hl' : L.length + 1 ≤ dN D := hl'
            refine ⟨by omega, fun w2 e2 => ?_⟩
            have e25 : w2 25 = u 25 := by rw [e2, uv_j (by decide)]
            rw [e25]
            refine ⟨by omega, fun w4 e4 => v125_91 ⟨by omega, ih (k + 1) w4 (by omega) (by omega) (hfu.trans (fun j _ q1 q2 => by rw [e4, uv_j q1, e2, uv_j q2])) ?_⟩⟩
            rw [hsn, hN]
            refine ⟨?_, by rw [List.length_append]; show L.length + 1 ≤ 24; omega, fun i hi => ?_⟩
            · rw [e4, uv_eq, u25, List.length_append]; rfl
            · rw [List.length_append] at hi
              have hi : i < L.length + 1 := hi
              rw [e4, uv_j (by decide), e2, uv_s, u25]
              by_cases r : i = L.length
              · rw [if_pos (by omega), gD_eq r]
              · rw [if_neg (by omega), gD_lt (by omega)]
                exact u26 i (by omega)
        | succ n ih2 =>
          intro i x3 i1 i2 i3
          have h01 : x3 = 0 ∨ x3 = 1 := by rw [i3]; split <;> omega
          have hi26 := u26 i (by omega)
          have hmem : E ∈ L.take (i + 1) ↔ E ∈ L.take i ∨ E = L.getD i 0 := by
            rw [take_snoc (d := 0) (by omega), List.mem_append, List.mem_singleton]
          have nx : ∀ x : Int, x = (if E ∈ L.take (i + 1) then 1 else 0) → ∀ {l3 : Option Value}, RW g C S m A 125 60 [some (.ref m), some (.int (iI k)), some (.int (iI E)), l3, some (.int (iI i))] [.int (iI x)] u Q := fun x hx l3 => by
            have h01 : x = 0 ∨ x = 1 := by rw [hx]; split <;> omega
            exact v125_60 ⟨by omega, ih2 (i + 1) x (by omega) (by omega) hx⟩ (hx2 := by omega)
          refine v125_31 ⟨fun q => by omega, fun _ => ⟨fun q => v125_55 (nx 1 ?_) (hx2 := by omega), fun q => ⟨by omega, fun r => nx 0 ?_, fun r => v125_55 (nx 1 ?_) (hx2 := by omega)⟩⟩⟩ (hx2 := by omega)
          · have hm : E ∈ L.take i := Decidable.of_not_not fun r => by rw [if_neg r] at i3; exact q i3
            rw [if_pos (hmem.mpr (Or.inl hm))]
          · have hm : ¬ E ∈ L.take i := fun r => by rw [if_pos r] at i3; omega
            rw [if_neg (fun s => (hmem.mp s).elim hm (fun s => r (by rw [hi26, ← s])))]
          · rw [if_pos (hmem.mpr (Or.inr (by omega)))]
      exact inner _ 0 0 rfl (Nat.zero_le _) rfl
  exact key _ 0 w1 rfl (Nat.zero_le _) hf1 ⟨by rw [e1, uv_eq]; rfl, by show 0 ≤ 24; omega, fun i hi => absurd hi (Nat.not_lt_zero _)⟩
end RList
