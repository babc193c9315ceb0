/-! more steps give the same; what is free stays free -/
def oLe (a b : Option (Rs × PS)) : Prop := ∀ x, a = some x → b = some x
theorem oLe_none (b : Option (Rs × PS)) : oLe none b := fun x h => nomatch h
theorem oLe_rfl (a : Option (Rs × PS)) : oLe a a := fun x h => h
section Mono
variable {g : Nat → Nat} {C S : Nat} {r1 r2 : Nat → Nat → LV → List Value → PS → Option (Rs × PS)}
theorem calM_mono (hE : ∀ k pc ls st σ, oLe (r1 k pc ls st σ) (r2 k pc ls st σ)) (k pc len : Nat) (ls : LV) (st : List Value) (σ : PS) (k2 op : Nat) : oLe (calM r1 k pc len ls st σ k2 op) (calM r2 k pc len ls st σ k2 op) := by
  intro x h
  unfold calM at h ⊢
  split at h
  · next hc =>
    rw [if_pos hc]
    split at h
    · next v τ hr =>
      rw [hE _ _ _ _ _ _ hr]
      exact hE _ _ _ _ _ _ h
    · next j τ hr =>
      rw [hE _ _ _ _ _ _ hr]
      exact h
    · cases h
  · cases h
theorem calA_mono {q1 q2 : PS → Option (Rs × PS)} (hE : ∀ σ, oLe (q1 σ) (q2 σ)) (σ : PS) (a sp b dp n : Nat) : oLe (calA q1 σ a sp b dp n) (calA q2 σ a sp b dp n) := by
  intro x h
  unfold calA at h ⊢
  split at h
  · next hc =>
    rw [if_pos hc]
    split at h
    · next hc => rw [if_pos hc]; exact hE _ _ h
    · next hc =>
      rw [if_neg hc]
      split at h
      · next hc => rw [if_pos hc]; exact hE _ _ h
      · cases h
  · cases h
theorem calX_mono (hE : ∀ k pc ls st σ, oLe (r1 k pc ls st σ) (r2 k pc ls st σ)) (k pc len : Nat) (ls : LV) (st : List Value) (σ : PS) (i op : Nat) : oLe (calX g r1 k pc len ls st σ i op) (calX g r2 k pc len ls st σ i op) := by
  intro x h
  unfold calX at h ⊢
  split at h
  · cases h
  · split at h
    · next hc =>
      rw [if_pos hc]
      unfold calS at h ⊢
      split at h
      · split at h
        · next hc => rw [if_pos hc]; exact hE _ _ _ _ _ _ h
        · cases h
      · split at h
        · next hc => rw [if_pos hc]; exact calA_mono (fun σ => hE _ _ _ _ _) _ _ _ _ _ _ _ h
        · cases h
      · split at h
        · next hc => rw [if_pos hc]; exact hE _ _ _ _ _ _ h
        · cases h
      · split at h
        · next hc => rw [if_pos hc]; exact hE _ _ _ _ _ _ h
        · cases h
      · split at h
        · next hc => rw [if_pos hc]; exact hE _ _ _ _ _ _ h
        · cases h
      · cases h
    · next hc =>
      rw [if_neg hc]
      exact calM_mono hE _ _ _ _ _ _ _ _ _ h
theorem getX_mono {q1 q2 : List Value → Option (Rs × PS)} (hE : ∀ s, oLe (q1 s) (q2 s)) (k : Nat) (st : List Value) (σ : PS) (i : Nat) : oLe (getX q1 k st σ i) (getX q2 k st σ i) := by
  unfold getX
  split
  · split
    · exact hE _
    · exact oLe_none _
  · exact oLe_none _
theorem putX_mono {q1 q2 : List Value → PS → Option (Rs × PS)} (hE : ∀ s τ, oLe (q1 s τ) (q2 s τ)) (k : Nat) (st : List Value) (σ : PS) (i : Nat) : oLe (putX q1 k st σ i) (putX q2 k st σ i) := by
  unfold putX
  split
  · split
    · split
      · split
        · exact hE _ _
        · exact oLe_none _
      · split
        · split
          · exact hE _ _
          · exact oLe_none _
        · exact oLe_none _
    · exact oLe_none _
  · exact oLe_none _
theorem ex_mono (hE : ∀ k pc ls st σ, oLe (r1 k pc ls st σ) (r2 k pc ls st σ)) (k pc len : Nat) (ls : LV) (st : List Value) (σ : PS) (i : Instr) : oLe (ex g C S r1 k pc len ls st σ i) (ex g C S r2 k pc len ls st σ i) := by
  cases i <;> unfold ex <;> dsimp only <;>
    first
      | exact oLe_none _
      | exact oLe_rfl _
      | exact hE _ _ _ _ _
      | exact calX_mono hE _ _ _ _ _ _ _ _
      | exact getX_mono (fun s => hE _ _ _ _ _) _ _ _ _
      | exact putX_mono (fun s τ => hE _ _ _ _ _) _ _ _ _
      | (repeat' split) <;> first | exact hE _ _ _ _ _ | exact oLe_none _ | exact oLe_rfl _ | contradiction
end Mono
theorem stp_mono {g : Nat → Nat} {C S : Nat} {r1 r2 : Nat → Nat → LV → List Value → PS → Option (Rs × PS)} (hE : ∀ k pc ls st σ, oLe (r1 k pc ls st σ) (r2 k pc ls st σ)) (k pc : Nat) (ls : LV) (st : List Value) (σ : PS) : oLe (stp g C S r1 k pc ls st σ) (stp g C S r2 k pc ls st σ) := by
  unfold stp
  split
  · exact oLe_rfl _
  · split
    · split
      · exact ex_mono hE _ _ _ _ _ _ _
      · exact oLe_none _
    · exact oLe_none _
theorem run_succ (g : Nat → Nat) (C S : Nat) : ∀ n k pc ls st σ, oLe (run g C S n k pc ls st σ) (run g C S (n + 1) k pc ls st σ)
  | 0, _, _, _, _, _ => oLe_none _
  | n + 1, k, pc, ls, st, σ => stp_mono (run_succ g C S n) k pc ls st σ
theorem run_le (g : Nat → Nat) (C S : Nat) {n n' : Nat} (h : n ≤ n') (k pc : Nat) (ls : LV) (st : List Value) (σ : PS) : oLe (run g C S n k pc ls st σ) (run g C S n' k pc ls st σ) := by
  induction h with
  | refl => exact oLe_rfl _
  | step _ ih => exact fun x hx => run_succ g C S _ k pc ls st σ x (ih x hx)
def OKs (o : Option (Rs × PS)) (σ : PS) : Prop := ∀ r τ, o = some (r, τ) → zOK σ → zOK τ
theorem OK_none (σ : PS) : OKs none σ := fun _ _ h => nomatch h
theorem OK_self (r : Rs) (σ : PS) : OKs (some (r, σ)) σ := fun _ _ h hz => by cases h; exact hz
theorem OK_of {o : Option (Rs × PS)} {σ τ : PS} (hz : zOK σ → zOK τ) (h : OKs o τ) : OKs o σ := fun r ρ e q => h r ρ e (hz q)
theorem zOK_alO {σ : PS} {κ N : Nat} (h : zOK σ) : zOK (alO σ κ N) := by
  intro a ha
  have h1 : zN σ + 1 ≤ a := ha
  show (if a = zN σ then κ else zK σ a) = 0
  rw [if_neg (by omega)]
  exact h a (by omega)
theorem zOK_alA {σ : PS} {κ N : Nat} (h : zOK σ) : zOK (alA σ κ N) := by
  intro a ha
  have h1 : zN σ + 1 ≤ a := ha
  show (if a = zN σ then κ else zK σ a) = 0
  rw [if_neg (by omega)]
  exact h a (by omega)
section Okay
variable {g : Nat → Nat} {C S : Nat} {rec : Nat → Nat → LV → List Value → PS → Option (Rs × PS)}
theorem calM_ok (hO : ∀ k pc ls st σ, OKs (rec k pc ls st σ) σ) (k pc len : Nat) (ls : LV) (st : List Value) (σ : PS) (k2 op : Nat) : OKs (calM rec k pc len ls st σ k2 op) σ := by
  unfold calM
  split
  · split
    · next v τ hr => exact OK_of (hO _ _ _ _ _ _ _ hr) (hO _ _ _ _ _)
    · next j τ hr =>
      split
      · exact OK_of (hO _ _ _ _ _ _ _ hr) (OK_self _ _)
      · exact OK_none _
    · exact OK_none _
  · exact OK_none _
theorem calA_ok {q : PS → Option (Rs × PS)} (hO : ∀ σ, OKs (q σ) σ) (σ : PS) (a sp b dp n : Nat) : OKs (calA q σ a sp b dp n) σ := by
  unfold calA
  split
  · split
    · exact OK_of (fun h => h) (hO _)
    · split
      · exact OK_of (fun h => h) (hO _)
      · exact OK_none _
  · exact OK_none _
theorem calX_ok (hO : ∀ k pc ls st σ, OKs (rec k pc ls st σ) σ) (k pc len : Nat) (ls : LV) (st : List Value) (σ : PS) (i op : Nat) : OKs (calX g rec k pc len ls st σ i op) σ := by
  unfold calX
  split
  · exact OK_none _
  · split
    · unfold calS
      split
      · split
        · exact hO _ _ _ _ _
        · exact OK_none _
      · split
        · exact calA_ok (fun σ => hO _ _ _ _ _) _ _ _ _ _ _
        · exact OK_none _
      · split
        · exact hO _ _ _ _ _
        · exact OK_none _
      · split
        · exact hO _ _ _ _ _
        · exact OK_none _
      · split
        · exact hO _ _ _ _ _
        · exact OK_none _
      · exact OK_none _
    · exact calM_ok hO _ _ _ _ _ _ _ _
theorem getX_ok {q : List Value → Option (Rs × PS)} {σ : PS} (hO : ∀ s, OKs (q s) σ) (k : Nat) (st : List Value) (i : Nat) : OKs (getX q k st σ i) σ := by
  unfold getX
  split
  · split
    · exact hO _
    · exact OK_none _
  · exact OK_none _
theorem putX_ok {q : List Value → PS → Option (Rs × PS)} {σ : PS} (hO : ∀ s τ, OKs (q s τ) τ) (k : Nat) (st : List Value) (i : Nat) : OKs (putX q k st σ i) σ := by
  unfold putX
  split
  · split
    · split
      · split
        · exact OK_of (fun h => h) (hO _ _)
        · exact OK_none _
      · split
        · split
          · exact OK_of (fun h => h) (hO _ _)
          · exact OK_none _
        · exact OK_none _
    · exact OK_none _
  · exact OK_none _
theorem ex_ok (hO : ∀ k pc ls st σ, OKs (rec k pc ls st σ) σ) (k pc len : Nat) (ls : LV) (st : List Value) (σ : PS) (i : Instr) : OKs (ex g C S rec k pc len ls st σ i) σ := by
  cases i <;> unfold ex <;> dsimp only <;>
    first
      | exact OK_none _
      | exact hO _ _ _ _ _
      | exact calX_ok hO _ _ _ _ _ _ _ _
      | exact getX_ok (fun s => hO _ _ _ _ _) _ _ _
      | exact putX_ok (fun s τ => hO _ _ _ _ _) _ _ _
      | (repeat' split) <;> first | exact hO _ _ _ _ _ | exact OK_none _ | exact OK_self _ _ | exact OK_of (fun h => h) (hO _ _ _ _ _) | exact OK_of zOK_alO (hO _ _ _ _ _) | exact OK_of zOK_alA (hO _ _ _ _ _)
end Okay
theorem run_ok (g : Nat → Nat) (C S : Nat) : ∀ n k pc ls st σ, OKs (run g C S n k pc ls st σ) σ
  | 0, _, _, _, _, _ => OK_none _
  | n + 1, k, pc, ls, st, σ => by
    show OKs (stp g C S (run g C S n) k pc ls st σ) σ
    unfold stp
    split
    · split
      · exact OK_self _ _
      · exact OK_none _
    · split
      · split
        · exact ex_ok (run_ok g C S n) _ _ _ _ _ _ _
        · exact OK_none _
      · exact OK_none _
/-! WHAT A RUN COMES TO -/
def WP (g : Nat → Nat) (C S k pc : Nat) (ls : LV) (st : List Value) (σ : PS) (Q : Rs → PS → Prop) : Prop := zOK σ → ∃ n r τ, run g C S n k pc ls st σ = some (r, τ) ∧ zOK τ ∧ Q r τ
section WPs
variable {g : Nat → Nat} {C S k pc : Nat} {ls : LV} {st : List Value} {σ : PS} {Q : Rs → PS → Prop}
theorem stp_at {rec : Nat → Nat → LV → List Value → PS → Option (Rs × PS)} {i : Instr} {len : Nat} (ht : tR k pc = none) (hd : decode (mB k) pc = .ok (i, len)) (hl : len = ilen i) : stp g C S rec k pc ls st σ = ex g C S rec k pc (ilen i) ls st σ i := by
  unfold stp
  rw [ht, hd]
  dsimp only
  rw [if_pos hl]
theorem WP.ok (h : zOK σ → WP g C S k pc ls st σ Q) : WP g C S k pc ls st σ Q := fun hz => h hz hz
theorem WP.mono {Q' : Rs → PS → Prop} (h : WP g C S k pc ls st σ Q) (hq : ∀ r τ, zOK τ → Q r τ → Q' r τ) : WP g C S k pc ls st σ Q' := fun hz => by
  obtain ⟨n, r, τ, h1, h2, h3⟩ := h hz
  exact ⟨n, r, τ, h1, h2, hq r τ h2 h3⟩
/-- a step -/
theorem r_go {i : Instr} {len pc' : Nat} {ls' : LV} {st' : List Value} {τ : PS} (hd : decode (mB k) pc = .ok (i, len)) (hex : ∀ rec : Nat → Nat → LV → List Value → PS → Option (Rs × PS), ex g C S rec k pc (ilen i) ls st σ i = rec k pc' ls' st' τ)
    (hz : zOK σ → zOK τ) (h : WP g C S k pc' ls' st' τ Q) (hl : len = ilen i := by rfl) (ht : tR k pc = none := by rfl) : WP g C S k pc ls st σ Q := fun hzz => by
  obtain ⟨n, r, ρ, h1, h2, h3⟩ := h (hz hzz)
  refine ⟨n + 1, r, ρ, ?_, h2, h3⟩
  show stp g C S (run g C S n) k pc ls st σ = _
  rw [stp_at ht hd hl, hex]
  exact h1
theorem r_g {i : Instr} {len pc' : Nat} {ls' : LV} {st' : List Value} (hd : decode (mB k) pc = .ok (i, len)) (hex : ∀ rec : Nat → Nat → LV → List Value → PS → Option (Rs × PS), ex g C S rec k pc (ilen i) ls st σ i = rec k pc' ls' st' σ)
    (h : WP g C S k pc' ls' st' σ Q) (hl : len = ilen i := by rfl) (ht : tR k pc = none := by rfl) : WP g C S k pc ls st σ Q := r_go hd hex (fun h => h) h hl ht
/-- an end -/
theorem r_end {i : Instr} {len : Nat} {r : Rs} (hd : decode (mB k) pc = .ok (i, len)) (hex : ∀ rec : Nat → Nat → LV → List Value → PS → Option (Rs × PS), ex g C S rec k pc (ilen i) ls st σ i = some (r, σ))
    (h : Q r σ) (hl : len = ilen i := by rfl) (ht : tR k pc = none := by rfl) : WP g C S k pc ls st σ Q := fun hzz => by
  refine ⟨1, r, σ, ?_, hzz, h⟩
  show stp g C S (run g C S 0) k pc ls st σ = _
  rw [stp_at ht hd hl, hex]
/-- a throw -/
theorem r_thr {j : Nat} (ht : tR k pc = some j) (hl : st.length ≤ 4) (hF : 6 ≤ mF k) (hW : 90 ≤ mW k) (hN : zN σ + 1 ≤ C) (hS : zS σ + 6 ≤ S) (h : Q (Sum.inr j) σ) : WP g C S k pc ls st σ Q := fun hzz => by
  refine ⟨1, _, σ, ?_, hzz, h⟩
  show stp g C S (run g C S 0) k pc ls st σ = _
  unfold stp
  rw [ht]
  dsimp only
  rw [if_pos ⟨hl, hF, hW, hN, hS⟩]
/-- what stands behind a call -/
def KK (g : Nat → Nat) (C S k pc : Nat) (ls : LV) (st : List Value) (Q : Rs → PS → Prop) (th : Bool) : Rs → PS → Prop := fun r τ => match r with
  | Sum.inl v => WP g C S k pc ls (v.toList ++ st) τ Q
  | Sum.inr j => th = true ∧ Q (Sum.inr j) τ
theorem r_call {i : Instr} {len k2 op pc' : Nat} {rest : List Value} {ls2 : LV} {th : Bool} (hd : decode (mB k) pc = .ok (i, len)) (hex : ∀ rec : Nat → Nat → LV → List Value → PS → Option (Rs × PS), ex g C S rec k pc (ilen i) ls st σ i = calM rec k pc (ilen i) ls st σ k2 op)
    (h1 : rmOK k k2 = true) (h2 : mA k2 ≤ st.length) (h3 : (st.drop (mA k2)).length ≤ 4) (h4 : (ent (st.take (mA k2)).reverse).length ≤ mL k2) (h5 : rcv σ op k2 (st.take (mA k2)).reverse = true) (h6 : entL (st.take (mA k2)).reverse (mL k2) = ls2) (h7 : st.drop (mA k2) = rest) (h8 : pc + ilen i = pc') (h9 : th = true → 81 ≤ k2 ∧ k2 ≤ 86)
    (h : WP g C S k2 0 ls2 [] σ (KK g C S k pc' ls rest Q th)) (hl : len = ilen i := by rfl) (ht : tR k pc = none := by rfl) : WP g C S k pc ls st σ Q := fun hzz => by
  subst h6 h7 h8
  obtain ⟨n, r, τ, e1, e2, e3⟩ := h hzz
  cases r with
  | inl v =>
    obtain ⟨n', r', τ', f1, f2, f3⟩ := e3 e2
    refine ⟨max n n' + 1, r', τ', ?_, f2, f3⟩
    show stp g C S (run g C S (max n n')) k pc ls st σ = _
    rw [stp_at ht hd hl, hex]
    unfold calM
    rw [if_pos ⟨h1, h2, h3, h4, h5⟩, run_le g C S (Nat.le_max_left n n') _ _ _ _ _ _ e1]
    exact run_le g C S (Nat.le_max_right n n') _ _ _ _ _ _ f1
  | inr j =>
    refine ⟨n + 1, _, τ, ?_, e2, e3.2⟩
    show stp g C S (run g C S n) k pc ls st σ = _
    rw [stp_at ht hd hl, hex]
    unfold calM
    rw [if_pos ⟨h1, h2, h3, h4, h5⟩, e1]
    dsimp only
    rw [if_pos (h9 e3.1)]
end WPs
