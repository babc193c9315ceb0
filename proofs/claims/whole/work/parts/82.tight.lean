/-! the same run in less room -/
def MoS (o : Option (Rs × PS)) (σ : PS) : Prop := ∀ r τ, o = some (r, τ) → zN σ ≤ zN τ ∧ zS σ ≤ zS τ
theorem Mo_none (σ : PS) : MoS none σ := fun _ _ h => nomatch h
theorem Mo_self (r : Rs) (σ : PS) : MoS (some (r, σ)) σ := fun _ _ h => by cases h; exact ⟨Nat.le_refl _, Nat.le_refl _⟩
theorem Mo_of {o : Option (Rs × PS)} {σ τ : PS} (h1 : zN σ ≤ zN τ) (h2 : zS σ ≤ zS τ) (h : MoS o τ) : MoS o σ := fun r ρ e => ⟨Nat.le_trans h1 (h r ρ e).1, Nat.le_trans h2 (h r ρ e).2⟩
theorem Mo_st {o : Option (Rs × PS)} {σ τ : PS} (h1 : zN τ = zN σ) (h2 : zS τ = zS σ) (h : MoS o τ) : MoS o σ := Mo_of (Nat.le_of_eq h1.symm) (Nat.le_of_eq h2.symm) h
theorem Mo_alO {o : Option (Rs × PS)} {σ : PS} {κ N : Nat} (h : MoS o (alO σ κ N)) : MoS o σ := Mo_of (τ := alO σ κ N) (show zN σ ≤ zN σ + 1 by omega) (show zS σ ≤ zS σ + N by omega) h
theorem Mo_alA {o : Option (Rs × PS)} {σ : PS} {κ N : Nat} (h : MoS o (alA σ κ N)) : MoS o σ := Mo_of (τ := alA σ κ N) (show zN σ ≤ zN σ + 1 by omega) (show zS σ ≤ zS σ + N by omega) h
section Grow
variable {g : Nat → Nat} {C S : Nat} {rec : Nat → Nat → LV → List Value → PS → Option (Rs × PS)}
theorem calM_mo (hO : ∀ k pc ls st σ, MoS (rec k pc ls st σ) σ) (k pc len : Nat) (ls : LV) (st : List Value) (σ : PS) (k2 op : Nat) : MoS (calM rec k pc len ls st σ k2 op) σ := by
  unfold calM
  split
  · split
    · next v τ hr => exact Mo_of (hO _ _ _ _ _ _ _ hr).1 (hO _ _ _ _ _ _ _ hr).2 (hO _ _ _ _ _)
    · next j τ hr =>
      split
      · exact Mo_of (hO _ _ _ _ _ _ _ hr).1 (hO _ _ _ _ _ _ _ hr).2 (Mo_self _ _)
      · exact Mo_none _
    · exact Mo_none _
  · exact Mo_none _
theorem calA_mo {q : PS → Option (Rs × PS)} (hO : ∀ σ, MoS (q σ) σ) (σ : PS) (a sp b dp n : Nat) : MoS (calA q σ a sp b dp n) σ := by
  unfold calA
  split
  · split
    · exact Mo_st rfl rfl (hO _)
    · split
      · exact Mo_st rfl rfl (hO _)
      · exact Mo_none _
  · exact Mo_none _
theorem calX_mo (hO : ∀ k pc ls st σ, MoS (rec k pc ls st σ) σ) (k pc len : Nat) (ls : LV) (st : List Value) (σ : PS) (i op : Nat) : MoS (calX g rec k pc len ls st σ i op) σ := by
  unfold calX
  split
  · exact Mo_none _
  · split
    · unfold calS
      split
      · split
        · exact hO _ _ _ _ _
        · exact Mo_none _
      · split
        · exact calA_mo (fun σ => hO _ _ _ _ _) _ _ _ _ _ _
        · exact Mo_none _
      · split
        · exact hO _ _ _ _ _
        · exact Mo_none _
      · split
        · exact hO _ _ _ _ _
        · exact Mo_none _
      · split
        · exact hO _ _ _ _ _
        · exact Mo_none _
      · exact Mo_none _
    · exact calM_mo hO _ _ _ _ _ _ _ _
theorem getX_mo {q : List Value → Option (Rs × PS)} {σ : PS} (hO : ∀ s, MoS (q s) σ) (k : Nat) (st : List Value) (i : Nat) : MoS (getX q k st σ i) σ := by
  unfold getX
  split
  · split
    · exact hO _
    · exact Mo_none _
  · exact Mo_none _
theorem putX_mo {q : List Value → PS → Option (Rs × PS)} {σ : PS} (hO : ∀ s τ, MoS (q s τ) τ) (k : Nat) (st : List Value) (i : Nat) : MoS (putX q k st σ i) σ := by
  unfold putX
  split
  · split
    · split
      · split
        · exact Mo_st rfl rfl (hO _ _)
        · exact Mo_none _
      · split
        · split
          · exact Mo_st rfl rfl (hO _ _)
          · exact Mo_none _
        · exact Mo_none _
    · exact Mo_none _
  · exact Mo_none _
theorem ex_mo (hO : ∀ k pc ls st σ, MoS (rec k pc ls st σ) σ) (k pc len : Nat) (ls : LV) (st : List Value) (σ : PS) (i : Instr) : MoS (ex g C S rec k pc len ls st σ i) σ := by
  cases i <;> unfold ex <;> dsimp only <;>
    first
      | exact Mo_none _
      | exact hO _ _ _ _ _
      | exact calX_mo hO _ _ _ _ _ _ _ _
      | exact getX_mo (fun s => hO _ _ _ _ _) _ _ _
      | exact putX_mo (fun s τ => hO _ _ _ _ _) _ _ _
      | (repeat' split) <;> first | exact hO _ _ _ _ _ | exact Mo_none _ | exact Mo_self _ _ | exact Mo_st rfl rfl (hO _ _ _ _ _) | exact Mo_alO (hO _ _ _ _ _) | exact Mo_alA (hO _ _ _ _ _)
end Grow
theorem run_mo (g : Nat → Nat) (C S : Nat) : ∀ n k pc ls st σ, MoS (run g C S n k pc ls st σ) σ
  | 0, _, _, _, _, _ => Mo_none _
  | n + 1, k, pc, ls, st, σ => by
    show MoS (stp g C S (run g C S n) k pc ls st σ) σ
    unfold stp
    split
    · split
      · exact Mo_self _ _
      · exact Mo_none _
    · split
      · split
        · exact ex_mo (run_mo g C S n) _ _ _ _ _ _ _
        · exact Mo_none _
      · exact Mo_none _
def oT (C' S' : Nat) (a b : Option (Rs × PS)) : Prop := ∀ r τ, a = some (r, τ) → zN τ + 1 ≤ C' → zS τ + 6 ≤ S' → b = some (r, τ)
theorem oT_none {C' S' : Nat} (b : Option (Rs × PS)) : oT C' S' none b := fun _ _ h => nomatch h
theorem oT_rfl {C' S' : Nat} (a : Option (Rs × PS)) : oT C' S' a a := fun _ _ h _ _ => h
section Tight
variable {g : Nat → Nat} {C S C' S' : Nat} {r1 r2 : Nat → Nat → LV → List Value → PS → Option (Rs × PS)}
theorem calM_t (hM : ∀ k pc ls st σ, MoS (r1 k pc ls st σ) σ) (hE : ∀ k pc ls st σ, oT C' S' (r1 k pc ls st σ) (r2 k pc ls st σ)) (k pc len : Nat) (ls : LV) (st : List Value) (σ : PS) (k2 op : Nat) : oT C' S' (calM r1 k pc len ls st σ k2 op) (calM r2 k pc len ls st σ k2 op) := by
  intro r ρ h hc1 hs1
  unfold calM at h ⊢
  split at h
  · next hc =>
    rw [if_pos hc]
    split at h
    · next v τ hr =>
      have hm := hM _ _ _ _ _ _ _ h
      rw [hE _ _ _ _ _ _ _ hr (by omega) (by omega)]
      exact hE _ _ _ _ _ _ _ h hc1 hs1
    · next j τ hr =>
      split at h
      · next hq =>
        cases h
        rw [hE _ _ _ _ _ _ _ hr hc1 hs1]
        dsimp only
        rw [if_pos hq]
      · cases h
    · cases h
  · cases h
theorem calA_t {q1 q2 : PS → Option (Rs × PS)} (hE : ∀ σ, oT C' S' (q1 σ) (q2 σ)) (σ : PS) (a sp b dp n : Nat) : oT C' S' (calA q1 σ a sp b dp n) (calA q2 σ a sp b dp n) := by
  intro r ρ h hc1 hs1
  unfold calA at h ⊢
  split at h
  · next hc =>
    rw [if_pos hc]
    split at h
    · next hc => rw [if_pos hc]; exact hE _ _ _ h hc1 hs1
    · next hc =>
      rw [if_neg hc]
      split at h
      · next hc => rw [if_pos hc]; exact hE _ _ _ h hc1 hs1
      · cases h
  · cases h
theorem calX_t (hM : ∀ k pc ls st σ, MoS (r1 k pc ls st σ) σ) (hE : ∀ k pc ls st σ, oT C' S' (r1 k pc ls st σ) (r2 k pc ls st σ)) (k pc len : Nat) (ls : LV) (st : List Value) (σ : PS) (i op : Nat) : oT C' S' (calX g r1 k pc len ls st σ i op) (calX g r2 k pc len ls st σ i op) := by
  intro r ρ h hc1 hs1
  unfold calX at h ⊢
  split at h
  · cases h
  · split at h
    · next hc =>
      rw [if_pos hc]
      unfold calS at h ⊢
      split at h
      · split at h
        · next hc => rw [if_pos hc]; exact hE _ _ _ _ _ _ _ h hc1 hs1
        · cases h
      · split at h
        · next hc => rw [if_pos hc]; exact calA_t (fun σ => hE _ _ _ _ _) _ _ _ _ _ _ _ _ h hc1 hs1
        · cases h
      · split at h
        · next hc => rw [if_pos hc]; exact hE _ _ _ _ _ _ _ h hc1 hs1
        · cases h
      · split at h
        · next hc => rw [if_pos hc]; exact hE _ _ _ _ _ _ _ h hc1 hs1
        · cases h
      · split at h
        · next hc => rw [if_pos hc]; exact hE _ _ _ _ _ _ _ h hc1 hs1
        · cases h
      · cases h
    · next hc =>
      rw [if_neg hc]
      exact calM_t hM hE _ _ _ _ _ _ _ _ _ _ h hc1 hs1
theorem getX_t {q1 q2 : List Value → Option (Rs × PS)} (hE : ∀ s, oT C' S' (q1 s) (q2 s)) (k : Nat) (st : List Value) (σ : PS) (i : Nat) : oT C' S' (getX q1 k st σ i) (getX q2 k st σ i) := by
  unfold getX
  split
  · split
    · exact hE _
    · exact oT_none _
  · exact oT_none _
theorem putX_t {q1 q2 : List Value → PS → Option (Rs × PS)} (hE : ∀ s τ, oT C' S' (q1 s τ) (q2 s τ)) (k : Nat) (st : List Value) (σ : PS) (i : Nat) : oT C' S' (putX q1 k st σ i) (putX q2 k st σ i) := by
  unfold putX
  split
  · split
    · split
      · split
        · exact hE _ _
        · exact oT_none _
      · split
        · split
          · exact hE _ _
          · exact oT_none _
        · exact oT_none _
    · exact oT_none _
  · exact oT_none _
theorem new_t {c : Prop} {c' : Prop} [Decidable c] [Decidable c'] {a b : Option (Rs × PS)} {σ : PS} (hE : oT C' S' a b) (hM : MoS a σ) (hc : c → zN σ ≤ C' → zS σ ≤ S' → c') : oT C' S' (if c then a else none) (if c' then b else none) := by
  intro r ρ h h1 h2
  split at h
  · next q =>
    have hm := hM _ _ h
    rw [if_pos (hc q (by omega) (by omega))]
    exact hE _ _ h h1 h2
  · cases h
theorem ex_t (hM : ∀ k pc ls st σ, MoS (r1 k pc ls st σ) σ) (hE : ∀ k pc ls st σ, oT C' S' (r1 k pc ls st σ) (r2 k pc ls st σ)) (k pc len : Nat) (ls : LV) (st : List Value) (σ : PS) (i : Instr) : oT C' S' (ex g C S r1 k pc len ls st σ i) (ex g C' S' r2 k pc len ls st σ i) := by
  cases i
  case new i =>
    unfold ex
    dsimp only
    split
    · next c hk => exact new_t (σ := alO σ (c + 1) (fN c)) (hE _ _ _ _ _) (hM _ _ _ _ _) (fun q h1 h2 => ⟨q.1, h1, h2⟩)
    · exact oT_none _
  case newarray t =>
    unfold ex
    dsimp only
    split
    · next n r =>
      cases t
      case int => exact new_t (σ := alA σ 101 n.toNatClampNeg) (hE _ _ _ _ _) (hM _ _ _ _ _) (fun q h1 h2 => ⟨q.1, q.2.1, h1, h2⟩)
      case char => exact new_t (σ := alA σ 102 n.toNatClampNeg) (hE _ _ _ _ _) (hM _ _ _ _ _) (fun q h1 h2 => ⟨q.1, q.2.1, h1, h2⟩)
      all_goals
        intro r ρ h
        dsimp only at h
        split at h <;> cases h
    · exact oT_none _
  case anewarray i =>
    unfold ex
    dsimp only
    split
    · next c n r hk => exact new_t (σ := alA σ (if c = 6 then 103 else 104) n.toNatClampNeg) (hE _ _ _ _ _) (hM _ _ _ _ _) (fun q h1 h2 => ⟨q.1, q.2.1, q.2.2.1, h1, h2⟩)
    · exact oT_none _
  all_goals
    unfold ex
    dsimp only
    first
      | exact oT_none _
      | exact oT_rfl _
      | exact hE _ _ _ _ _
      | exact calX_t hM hE _ _ _ _ _ _ _ _
      | exact getX_t (fun s => hE _ _ _ _ _) _ _ _ _
      | exact putX_t (fun s τ => hE _ _ _ _ _) _ _ _ _
      | (repeat' split) <;> first | exact hE _ _ _ _ _ | exact oT_none _ | exact oT_rfl _ | contradiction
end Tight
theorem run_t (g : Nat → Nat) (C S C' S' : Nat) : ∀ n k pc ls st σ, oT C' S' (run g C S n k pc ls st σ) (run g C' S' n k pc ls st σ)
  | 0, _, _, _, _, _ => oT_none _
  | n + 1, k, pc, ls, st, σ => by
    show oT C' S' (stp g C S (run g C S n) k pc ls st σ) (stp g C' S' (run g C' S' n) k pc ls st σ)
    unfold stp
    split
    · intro r ρ h h1 h2
      split at h
      · next q =>
        cases h
        rw [if_pos ⟨q.1, q.2.1, q.2.2.1, h1, h2⟩]
      · cases h
    · split
      · split
        · exact ex_t (run_mo g C S n) (run_t g C S C' S' n) _ _ _ _ _ _ _
        · exact oT_none _
      · exact oT_none _
theorem run_tight {g : Nat → Nat} {C S n k pc : Nat} {ls : LV} {st : List Value} {σ τ : PS} {r : Rs} (h : run g C S n k pc ls st σ = some (r, τ)) : run g (zN τ + 1) (zS τ + 6) n k pc ls st σ = some (r, τ) :=
  run_t g C S _ _ n k pc ls st σ r τ h (Nat.le_refl _) (Nat.le_refl _)
