/-! the same words with tags -/
def ptO (x : P5) (k : Nat) : Int := if x.1 ≤ k ∧ k < x.2.1 then 0 else if x.2.2.1 ≤ k ∧ k < x.2.2.2.1 then 1 else 2
def twd (t : List Int) (p : Nat) (x : P5) (W : List Wd) (k : Nat) : TWd := ((p : Int), ptO x k, sl t (W.getD k (0, 0)).1 (W.getD k (0, 0)).2)
def tgR (t : List Int) (p : Nat) (x : P5) (W : List Wd) : List TWd := (List.range W.length).map (twd t p x W)
abbrev PT : Type := PP × List TWd
def adT (t : List Int) (S : PT) (r : Wd) : PT := (adR t S.1 r, if rgW t r.1 r.2 = [] then S.2 else S.2 ++ tgR t S.1.2.length (p5 t (rgW t r.1 r.2) (rgB t r.1 r.2)) (rgW t r.1 r.2))
def tgA (t : List Int) (l : List Wd) : PT := l.foldl (adT t) (([], []), [])
theorem tgA_snoc (t : List Int) (l : List Wd) (r : Wd) : tgA t (l ++ [r]) = adT t (tgA t l) r := by
  unfold tgA
  rw [List.foldl_append]
  rfl
def tgs (t : List Int) : List TWd := (tgA t (regs t)).2
theorem tgA_fst (t : List Int) (l : List Wd) : (tgA t l).1 = ppA t l := by
  have h : ∀ (l : List Wd) (S : PT), (l.foldl (adT t) S).1 = l.foldl (adR t) S.1 := by
    intro l
    induction l with
    | nil => intro S; rfl
    | cons r l ih => intro S; exact ih (adT t S r)
  exact h l _
theorem fold_inv {α β : Type} {f : α → β → α} {P : α → Prop} (hf : ∀ S r, P S → P (f S r)) : ∀ (l : List β) (S : α), P S → P (l.foldl f S)
  | [], _, h => h
  | r :: l, S, h => fold_inv hf l (f S r) (hf S r h)
theorem rng_filter : ∀ (n f t : Nat), t ≤ n → (List.range n).filter (fun k => decide (f ≤ k ∧ k < t)) = ((List.range n).take t).drop f
  | 0, f, t, h => by simp
  | n + 1, f, t, h => by
    rw [List.range_succ, List.filter_append]
    by_cases e : t = n + 1
    · subst e
      have h1 : (List.range n).filter (fun k => decide (f ≤ k ∧ k < n + 1)) = (List.range n).filter (fun k => decide (f ≤ k ∧ k < n)) := by
        apply List.filter_congr
        intro k hk
        have hk : k < n := List.mem_range.mp hk
        simp only [decide_eq_decide]
        omega
      rw [h1, rng_filter n f n (Nat.le_refl _), List.take_of_length_le (by simp), List.take_of_length_le (by simp), List.drop_append]
      congr 1
      simp only [List.length_range]
      by_cases q : f ≤ n
      · rw [show f - n = 0 by omega]
        simp [q]
      · rw [List.drop_eq_nil_of_le (by simp; omega)]
        simp [q]
    · rw [rng_filter n f t (by omega), List.take_append_of_le_length (by simp; omega)]
      have : [n].filter (fun k => decide (f ≤ k ∧ k < t)) = [] := by
        simp only [List.filter_eq_nil_iff, List.mem_singleton]
        intro a ha
        simp only [decide_eq_true_eq]
        omega
      rw [this, List.append_nil]
theorem p5_ok {t : List Int} {W : List Wd} {B : Option Nat} (hW : ¬ W = []) (hB : ∀ m, B = some m → m ≤ W.length) : ((p5 t W B).1 ≤ W.length ∧ (p5 t W B).2.1 ≤ W.length ∧ (p5 t W B).2.2.1 ≤ W.length ∧ (p5 t W B).2.2.2.1 ≤ W.length ∧ (p5 t W B).2.2.2.2 ≤ W.length) ∧ (p5 t W B).2.2.1 ≤ (p5 t W B).2.2.2.1 ∧ (p5 t W B).2.2.2.1 ≤ (p5 t W B).2.2.2.2 ∧ (∀ k, k < W.length → ((ptO (p5 t W B) k = 0 ↔ (p5 t W B).1 ≤ k ∧ k < (p5 t W B).2.1) ∧ (ptO (p5 t W B) k = 1 ↔ (p5 t W B).2.2.1 ≤ k ∧ k < (p5 t W B).2.2.2.1) ∧ (ptO (p5 t W B) k = 2 ↔ (p5 t W B).2.2.2.1 ≤ k ∧ k < (p5 t W B).2.2.2.2))) := by
  have hlen : 0 < W.length := List.length_pos_iff.mpr hW
  have key : ∀ (a b c d e n : Nat), (a ≤ n ∧ b ≤ n ∧ c ≤ n ∧ d ≤ n ∧ e ≤ n) → c ≤ d → d ≤ e → ((a = e ∧ b = n ∧ c = 0) ∨ (a = 0 ∧ b = c ∧ e = n)) → (a ≤ n ∧ b ≤ n ∧ c ≤ n ∧ d ≤ n ∧ e ≤ n) ∧ c ≤ d ∧ d ≤ e ∧ ∀ k, k < n → ((ptO (a, b, c, d, e) k = 0 ↔ a ≤ k ∧ k < b) ∧ (ptO (a, b, c, d, e) k = 1 ↔ c ≤ k ∧ k < d) ∧ (ptO (a, b, c, d, e) k = 2 ↔ d ≤ k ∧ k < e)) := by
    intro a b c d e n h1 h2 h3 h4
    refine ⟨h1, h2, h3, fun k hk => ?_⟩
    unfold ptO
    dsimp only
    split
    · omega
    · split <;> omega
  cases B with
  | some m =>
    have hm := hB m rfl
    have hf := fst_le (P := fun k => !smW t W k) (n := m - 1) (k := 0)
    exact key m W.length 0 (fst' (fun k => !smW t W k) (m - 1) 0) m W.length (by omega) (by omega) (by omega) (Or.inl ⟨rfl, rfl, rfl⟩)
  | none =>
    have hf := fst_le (P := smW t W) (n := W.length - 1) (k := 0)
    have hb := bck_le (P := smW t W) (a := fst' (smW t W) (W.length - 1) 0) (c := W.length - 1) (by omega)
    exact key 0 (fst' (smW t W) (W.length - 1) 0) (fst' (smW t W) (W.length - 1) 0) (bck (smW t W) (fst' (smW t W) (W.length - 1) 0) (W.length - 1)) W.length W.length (by omega) (by omega) (by omega) (Or.inr ⟨rfl, rfl, rfl⟩)
theorem wcs_len {t : List Int} {W : List Wd} : (wcs t W).length = W.length := List.length_map _
theorem wcs_rng {t : List Int} {W : List Wd} : (List.range W.length).map (fun k => sl t (W.getD k (0, 0)).1 (W.getD k (0, 0)).2) = wcs t W := by
  show _ = W.map (fun w => sl t w.1 w.2)
  apply List.ext_getElem
  · rw [List.length_map, List.length_range, List.length_map]
  · intro i h1 h2
    have h3 : i < W.length := by rw [List.length_map] at h2; exact h2
    rw [List.getElem_map, List.getElem_map, List.getElem_range, List.getD_eq_getElem?_getD, List.getElem?_eq_getElem h3]
    rfl
theorem tgR_sel {t : List Int} {p : Nat} {x : P5} {W : List Wd} {q : Int} {f e : Nat} (he : e ≤ W.length) (h : ∀ k, k < W.length → (ptO x k = q ↔ f ≤ k ∧ k < e)) : sel (tgR t p x W) p q = slc (wcs t W) f e := by
  unfold sel tgR slc
  rw [← wcs_rng, List.filter_map, List.map_map, ← List.map_take, ← List.map_drop, ← rng_filter W.length f e he]
  have : (List.range W.length).filter ((fun t => decide (t.1 = (p : Int) ∧ t.2.1 = q)) ∘ twd t p x W) = (List.range W.length).filter (fun k => decide (f ≤ k ∧ k < e)) := by
    apply List.filter_congr
    intro k hk
    have hk : k < W.length := List.mem_range.mp hk
    show decide ((p : Int) = (p : Int) ∧ ptO x k = q) = decide (f ≤ k ∧ k < e)
    rw [decide_eq_decide, ← h k hk]
    exact ⟨fun s => s.2, fun s => ⟨rfl, s⟩⟩
  rw [this]
  rfl
theorem sel_none {T : List TWd} {p q : Int} (h : ∀ x, x ∈ T → ¬ x.1 = p) : sel T p q = [] := by
  unfold sel
  have : T.filter (fun t => decide (t.1 = p ∧ t.2.1 = q)) = [] := by
    rw [List.filter_eq_nil_iff]
    intro x hx
    simp only [decide_eq_true_eq]
    exact fun s => h x hx s.1
  rw [this]
  rfl
theorem sel_app (T U : List TWd) (p q : Int) : sel (T ++ U) p q = sel T p q ++ sel U p q := by
  unfold sel
  rw [List.filter_append, List.map_append]
theorem slc_app {a b : List (List Int)} {f e : Nat} (h : e ≤ a.length) : slc (a ++ b) f e = slc a f e := by
  unfold slc
  rw [List.take_append_of_le_length h]
theorem slc_sh {a b : List (List Int)} {f e n : Nat} (h : n = a.length) : slc (a ++ b) (n + f) (n + e) = slc b f e := by
  subst h
  unfold slc
  rw [List.take_length_add_append, List.drop_length_add_append]
/-- what the tags say is what the numbers say -/
def PTK (t : List Int) (S : PT) : Prop :=
  S.2.length = S.1.1.length ∧ (∀ x, x ∈ S.2 → 0 ≤ x.1 ∧ x.1 < S.1.2.length) ∧
  ∀ p : Nat, p < S.1.2.length → ((S.1.2.getD p (0, 0, 0, 0, 0)).1 ≤ S.1.1.length ∧ (S.1.2.getD p (0, 0, 0, 0, 0)).2.1 ≤ S.1.1.length ∧ (S.1.2.getD p (0, 0, 0, 0, 0)).2.2.1 ≤ (S.1.2.getD p (0, 0, 0, 0, 0)).2.2.2.1 ∧ (S.1.2.getD p (0, 0, 0, 0, 0)).2.2.2.1 ≤ (S.1.2.getD p (0, 0, 0, 0, 0)).2.2.2.2 ∧ (S.1.2.getD p (0, 0, 0, 0, 0)).2.2.2.2 ≤ S.1.1.length) ∧
    sel S.2 p 0 = slc (wcs t S.1.1) (S.1.2.getD p (0, 0, 0, 0, 0)).1 (S.1.2.getD p (0, 0, 0, 0, 0)).2.1 ∧
    sel S.2 p 1 = slc (wcs t S.1.1) (S.1.2.getD p (0, 0, 0, 0, 0)).2.2.1 (S.1.2.getD p (0, 0, 0, 0, 0)).2.2.2.1 ∧
    sel S.2 p 2 = slc (wcs t S.1.1) (S.1.2.getD p (0, 0, 0, 0, 0)).2.2.2.1 (S.1.2.getD p (0, 0, 0, 0, 0)).2.2.2.2
theorem gD_lt {α : Type} {l : List α} {x d : α} {i : Nat} (h : i < l.length) : (l ++ [x]).getD i d = l.getD i d := by
  rw [List.getD_eq_getElem?_getD, List.getD_eq_getElem?_getD, List.getElem?_append_left h]
theorem gD_eq {α : Type} {l : List α} {x d : α} {i : Nat} (h : i = l.length) : (l ++ [x]).getD i d = x := by
  subst h
  rw [List.getD_eq_getElem?_getD, List.getElem?_append_right (Nat.le_refl _)]
  simp
theorem adT_ok {t : List Int} {S : PT} {r : Wd} (hr : r.1 ≤ r.2) (h : PTK t S) : PTK t (adT t S r) := by
  obtain ⟨h1, h2, h3⟩ := h
  unfold adT adR
  by_cases hW : rgW t r.1 r.2 = []
  · rw [if_pos hW, if_pos hW]
    exact ⟨h1, h2, h3⟩
  · rw [if_neg hW, if_neg hW]
    have hB := (rg_ok (t := t) hr).2.2
    obtain ⟨⟨k1, k2, k3, k4, k5⟩, k6, k7, k8⟩ := p5_ok (t := t) hW hB
    generalize rgW t r.1 r.2 = W at *
    generalize p5 t W (rgB t r.1 r.2) = x at *
    have hl : (tgR t S.1.2.length x W).length = W.length := by unfold tgR; rw [List.length_map, List.length_range]
    have htag : ∀ y, y ∈ tgR t S.1.2.length x W → y.1 = (S.1.2.length : Int) := fun y hy => by
      unfold tgR at hy
      obtain ⟨k, -, hk⟩ := List.mem_map.mp hy
      rw [← hk]
      rfl
    have hwl : (wcs t S.1.1).length = S.1.1.length := wcs_len
    have hwa : wcs t (S.1.1 ++ W) = wcs t S.1.1 ++ wcs t W := List.map_append
    refine ⟨?_, fun y hy => ?_, fun p hp => ?_⟩
    · show (S.2 ++ tgR t S.1.2.length x W).length = (S.1.1 ++ W).length
      rw [List.length_append, List.length_append, hl, h1]
    · show 0 ≤ y.1 ∧ y.1 < ((S.1.2 ++ [sh5 S.1.1.length x]).length : Int)
      rw [List.length_append]
      rcases List.mem_append.mp hy with q | q
      · have := h2 y q
        show 0 ≤ y.1 ∧ y.1 < ((S.1.2.length + 1 : Nat) : Int)
        omega
      · have := htag y q
        show 0 ≤ y.1 ∧ y.1 < ((S.1.2.length + 1 : Nat) : Int)
        omega
    · have hp : p < (S.1.2 ++ [sh5 S.1.1.length x]).length := hp
      rw [List.length_append] at hp
      have hp : p < S.1.2.length + 1 := hp
      dsimp only
      rw [hwa]
      by_cases e : p = S.1.2.length
      · rw [gD_eq e, sel_app, sel_app, sel_app, sel_none (T := S.2) (p := p) (q := 0) (fun y hy s => by have := h2 y hy; omega), sel_none (T := S.2) (p := p) (q := 1) (fun y hy s => by have := h2 y hy; omega), sel_none (T := S.2) (p := p) (q := 2) (fun y hy s => by have := h2 y hy; omega)]
        have hla : (S.1.1 ++ W).length = S.1.1.length + W.length := List.length_append
        rw [hla]
        unfold sh5
        dsimp only
        rw [slc_sh hwl.symm, slc_sh hwl.symm, slc_sh hwl.symm, List.nil_append, List.nil_append, List.nil_append, e]
        exact ⟨by omega, tgR_sel k2 (fun k hk => (k8 k hk).1), tgR_sel k4 (fun k hk => (k8 k hk).2.1), tgR_sel k5 (fun k hk => (k8 k hk).2.2)⟩
      · obtain ⟨⟨q1, q2, q3, q4, q5⟩, q6, q7, q8⟩ := h3 p (by omega)
        rw [gD_lt (by omega), sel_app, sel_app, sel_app]
        have hn : ∀ q : Int, sel (tgR t S.1.2.length x W) p q = [] := fun q => sel_none (fun y hy s => by have := htag y hy; omega)
        rw [hn, hn, hn, List.append_nil, List.append_nil, List.append_nil, slc_app (by omega), slc_app (by omega), slc_app (by omega)]
        have hla : (S.1.1 ++ W).length = S.1.1.length + W.length := List.length_append
        rw [hla]
        exact ⟨by omega, q6, q7, q8⟩
theorem tgA_ok (t : List Int) : ∀ (l : List Wd), (∀ r, r ∈ l → r.1 ≤ r.2) → PTK t (tgA t l) := by
  have h : ∀ (l : List Wd) (S : PT), (∀ r, r ∈ l → r.1 ≤ r.2) → PTK t S → PTK t (l.foldl (adT t) S) := by
    intro l
    induction l with
    | nil => intro S _ h; exact h
    | cons r l ih => intro S hl h; exact ih _ (fun r' hr' => hl r' (List.mem_cons_of_mem _ hr')) (adT_ok (hl r List.mem_cons_self) h)
  intro l hl
  refine h l _ hl ⟨rfl, fun x hx => (by cases hx), fun p hp => absurd hp (Nat.not_lt_zero _)⟩
/-- texts of persons lie one behind the other -/
def AR (s : AS) : Prop := s.2.1 ≤ s.1 ∧ ∀ r, r ∈ s.2.2 → r.1 ≤ r.2
theorem ap_AR {t : List Int} {i : Nat} {s : AS} (h : AR s) (hi : s.1 ≤ i) : AR (ap t s i) := by
  unfold ap
  split
  · refine ⟨by show i ≤ i + 1; omega, fun r hr => ?_⟩
    rcases List.mem_append.mp hr with q | q
    · exact h.2 r q
    · rw [List.mem_singleton.mp q]
      exact h.1
  · exact ⟨by have := h.1; show s.2.1 ≤ i + 1; omega, h.2⟩
theorem asn_AR (t : List Int) : ∀ i, AR (asn t i)
  | 0 => ⟨Nat.le_refl _, fun r hr => (by cases hr)⟩
  | i + 1 => by
    show AR (if t.getD i 0 = 32 then ap t (asn t i) i else asn t i)
    split
    · exact ap_AR (asn_AR t i) (asn_ok t i).2.1
    · exact asn_AR t i
theorem ap_pf {t : List Int} {i : Nat} {s : AS} (h : AR s) (hi : s.1 ≤ i) : (ap t s i).2.1 ≤ i := by
  unfold ap
  split
  · exact Nat.le_refl _
  · have := h.1
    show s.2.1 ≤ i
    omega
theorem regs_ok (t : List Int) : ∀ r, r ∈ regs t → r.1 ≤ r.2 := by
  intro r hr
  have h := ap_AR (t := t) (i := t.length) (asn_AR t t.length) (asn_ok t t.length).2.1
  unfold regs at hr
  rcases List.mem_append.mp hr with q | q
  · exact h.2 r q
  · rw [List.mem_singleton.mp q]
    exact ap_pf (asn_AR t t.length) (asn_ok t t.length).2.1
theorem tgs_ok (t : List Int) : PTK t (tgA t (regs t)) := tgA_ok t (regs t) (regs_ok t)
theorem tgs_sel (t : List Int) (p : Nat) : sel (tgs t) p 0 = gv t p ∧ sel (tgs t) p 1 = pa t p ∧ sel (tgs t) p 2 = fa t p := by
  have h := tgs_ok t
  have e : (tgA t (regs t)).1 = ppl t := tgA_fst t (regs t)
  unfold PTK at h
  rw [e] at h
  by_cases hp : p < (ppl t).2.length
  · exact (h.2.2 p hp).2
  · have e0 : pn t p = (0, 0, 0, 0, 0) := by
      unfold pn
      rw [List.getD_eq_getElem?_getD, List.getElem?_eq_none (by omega)]
      rfl
    have hn : ∀ q : Int, sel (tgs t) p q = [] := fun q => sel_none (fun y hy s => by have := h.2.1 y hy; omega)
    have hz : ∀ ws, slc ws 0 0 = [] := fun ws => by unfold slc; simp
    unfold gv pa fa
    rw [hn, hn, hn, e0]
    exact ⟨(hz _).symm, (hz _).symm, (hz _).symm⟩
/-- no more than 40 words -/
theorem ppl_len (t : List Int) : (2 * (ppl t).1.length ≤ t.length + 1 ∧ wp (ppl t).1 ≤ t.length + 1) ∧ ∀ w, w ∈ (ppl t).1 → w.1 < w.2 ∧ w.2 ≤ t.length := by
  have h := asn_ok t t.length
  have hA := ap_AR (t := t) (i := t.length) (asn_AR t t.length) h.2.1
  have hp := ap_pf (t := t) (i := t.length) (asn_AR t t.length) h.2.1
  have h3 := ap_ok h
  have hr := rg_ok (t := t) hp
  unfold ppl regs
  rw [ppA_snoc, adR_len]
  refine ⟨?_, fun w hw => ?_⟩
  · rw [List.length_append, wp_app]
    have h4 := h3.2.2.1
    have h5 := hr.1
    dsimp only at h5 ⊢
    omega
  · rcases List.mem_append.mp hw with q | q
    · have h6 : ∀ w, w ∈ (ppA t (ap t (asn t t.length) t.length).2.2).1 → w.1 < w.2 ∧ w.2 ≤ t.length := by
        intro w hw
        unfold ap at hw
        split at hw
        · have hw : w ∈ (ppA t ((asn t t.length).2.2 ++ [((asn t t.length).2.1, (asn t t.length).1)])).1 := hw
          rw [ppA_snoc, adR_len] at hw
          rcases List.mem_append.mp hw with q | q
          · exact h.2.2.2 w q
          · have := (rg_ok (t := t) h.1).2.1 w q
            have := h.2.1
            omega
        · exact h.2.2.2 w hw
      exact h6 w q
    · have := hr.2.1 w q
      omega
theorem ppA_le (t : List Int) (l : List Wd) : (ppA t l).2.length ≤ (ppA t l).1.length := by
  refine fold_inv (P := fun S : PP => S.2.length ≤ S.1.length) (fun S r h => ?_) l _ (Nat.le_refl _)
  unfold adR
  split
  · exact h
  · next q =>
    have : 0 < (rgW t r.1 r.2).length := List.length_pos_iff.mpr q
    show (S.2 ++ [_]).length ≤ (S.1 ++ rgW t r.1 r.2).length
    rw [List.length_append, List.length_append]
    show S.2.length + 1 ≤ _
    have h : S.2.length ≤ S.1.length := h
    omega
theorem np_le (t : List Int) : np t ≤ (ppl t).1.length := ppA_le t _
theorem tgA_len {t : List Int} {l : List Wd} (hl : ∀ r, r ∈ l → r.1 ≤ r.2) : (tgA t l).2.length = (ppA t l).1.length := by
  have h := (tgA_ok t l hl).1
  rw [tgA_fst] at h
  exact h
theorem wcs_wl {t : List Int} : ∀ {W : List Wd}, (∀ w, w ∈ W → w.1 < w.2 ∧ w.2 ≤ t.length) → wl (wcs t W) = wp W
  | [], _ => rfl
  | w :: W, h => by
    have h1 := h w List.mem_cons_self
    have h2 := wcs_wl (fun x hx => h x (List.mem_cons_of_mem _ hx)) (t := t) (W := W)
    show wl ([sl t w.1 w.2] ++ wcs t W) = wp ([w] ++ W)
    rw [wl_app, wl_one, wp_app, wp_one, h2, sl_len h1.2]
theorem slc_wl (ws : List (List Int)) (f e : Nat) : wl (slc ws f e) ≤ wl ws ∧ ∀ w, w ∈ slc ws f e → w ∈ ws := by
  unfold slc
  refine ⟨?_, fun w hw => List.mem_of_mem_take (List.mem_of_mem_drop hw)⟩
  have h1 : wl ws = wl (ws.take e) + wl (ws.drop e) := by rw [← wl_app, List.take_append_drop]
  have h2 : wl (ws.take e) = wl ((ws.take e).take f) + wl ((ws.take e).drop f) := by rw [← wl_app, List.take_append_drop]
  omega
theorem sl_mem {t : List Int} {f e : Nat} {x : Int} (h : x ∈ sl t f e) : x ∈ t := List.mem_of_mem_take (List.mem_of_mem_drop h)
/-- words of a person: short, of the text's characters, not empty -/
def wdK (t : List Int) (ws : List (List Int)) : Prop := wl ws ≤ t.length + 1 ∧ ∀ w, w ∈ ws → ¬ w = [] ∧ ∀ x, x ∈ w → x ∈ t
theorem wcs_K (t : List Int) (f e : Nat) : wdK t (slc (wcs t (ppl t).1) f e) := by
  obtain ⟨h1, h2⟩ := ppl_len t
  have h3 := wcs_wl h2
  obtain ⟨h4, h5⟩ := slc_wl (wcs t (ppl t).1) f e
  refine ⟨by omega, fun w hw => ?_⟩
  obtain ⟨x, hx, e⟩ := List.mem_map.mp (h5 w hw)
  have h6 := h2 x hx
  refine ⟨fun q => ?_, fun y hy => sl_mem (by rw [e]; exact hy)⟩
  have := sl_len (l := t) (f := x.1) h6.2
  rw [e, q] at this
  have : 0 = x.2 - x.1 := this
  omega
theorem gv_K (t : List Int) (p : Nat) : wdK t (gv t p) := wcs_K t _ _
theorem pa_K (t : List Int) (p : Nat) : wdK t (pa t p) := wcs_K t _ _
theorem fa_K (t : List Int) (p : Nat) : wdK t (fa t p) := wcs_K t _ _
theorem jn_mem : ∀ {ws : List (List Int)} {x : Int}, x ∈ jn ws → x = 32 ∨ ∃ w, w ∈ ws ∧ x ∈ w
  | [], x, h => by cases h
  | w :: ws, x, h => by
    rcases List.mem_append.mp h with q | q
    · exact Or.inr ⟨w, List.mem_cons_self, q⟩
    · obtain ⟨y, hy, hx⟩ := List.mem_flatMap.mp q
      rcases List.mem_cons.mp hx with r | r
      · exact Or.inl r
      · exact Or.inr ⟨y, List.mem_cons_of_mem _ hy, r⟩
theorem wdK.ok {t : List Int} {ws : List (List Int)} (h : wdK t ws) (ht : ∀ x, x ∈ t → okc x) : ∀ x, x ∈ jn ws → okc x := fun x hx => by
  rcases jn_mem hx with q | ⟨w, hw, q⟩
  · rw [q]; unfold okc; omega
  · exact ht x ((h.2 w hw).2 x q)
theorem wdK.len {t : List Int} {ws : List (List Int)} (h : wdK t ws) : 2 * ws.length ≤ t.length + 1 ∧ (jn ws).length ≤ t.length := by
  have h1 : ∀ ws : List (List Int), (∀ w, w ∈ ws → ¬ w = []) → 2 * ws.length ≤ wl ws := fun ws => by
    induction ws with
    | nil => intro _; exact Nat.le_refl _
    | cons w ws ih =>
      intro hw
      have h2 := ih (fun x hx => hw x (List.mem_cons_of_mem _ hx))
      have h3 : 0 < w.length := List.length_pos_iff.mpr (hw w List.mem_cons_self)
      rw [show w :: ws = [w] ++ ws from rfl, wl_app, wl_one, List.length_append]
      show 2 * (1 + ws.length) ≤ _
      omega
  have h2 := h1 ws (fun w hw => (h.2 w hw).1)
  have h3 := jn_len ws
  have h4 := h.1
  refine ⟨by omega, ?_⟩
  by_cases q : ws = []
  · rw [q]; exact Nat.zero_le _
  · rw [if_neg q] at h3
    omega
