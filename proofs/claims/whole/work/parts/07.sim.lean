/-! THE MACHINE'S HEAP AND THE PURE STATE -/
/-- the slots in use -/
def hsl (H : Heap) : Nat := H.foldl (fun n c => n + c.slots.size) 0
section SimW
variable {p : Program} {l : Launch} {e : Env} {R : Room} {s : State} {m : MethodId} {args : Array Value} {below : List Frame} {meth : Method} {c : Code} {H : Heap} {locs : List Loc} {cells slots : Nat} {Q : State → Prop}
theorem st_sum {T : State} (X : Stand p l e R s m args below meth c T locs cells slots) : hsl T.heap = hsl s.heap + ((T.heap.toList.drop s.heap.size).map (·.slots.size)).sum := by
  have h0 : s.slotsTrue = true := by
    have h := X.room
    simp only [State.hasRoom, Bool.and_eq_true] at h
    exact h.2
  have h1 := X.book
  have h4 : T.slotsUsed = s.slotsUsed + _ := X.same.2.2.2.1
  simp only [State.slotsTrue, beq_iff_eq] at h0 h1
  unfold hsl
  rw [← h1, ← h0, h4]
  rfl
theorem W_look {g : JFrame} (k : hsl H ≤ hsl s.heap + slots → H.size ≤ s.heap.size + cells → W p l e R s m args below meth c H locs cells slots Q g) : W p l e R s m args below meth c H locs cells slots Q g := by
  intro T hT X
  refine k ?_ ?_ T hT X
  · have h := st_sum X
    have h5 := X.same.2.2.2.2.1
    rw [hT] at h
    have h6 : ((T.heap.toList.drop s.heap.size).map (·.slots.size)).sum ≤ slots := h5
    rw [hT] at h6
    omega
  · have h := X.heapSize
    rw [hT] at h
    exact h
theorem W_tight {g : JFrame} {cells' slots' : Nat} (h1 : hsl H ≤ hsl s.heap + slots') (h2 : H.size ≤ s.heap.size + cells') (k : W p l e R s m args below meth c H locs cells' slots' Q g) : W p l e R s m args below meth c H locs cells slots Q g := by
  intro T hT X
  have h3 := st_sum X
  rw [hT] at h3
  refine k T hT { X with same := ⟨X.same.1, X.same.2.1, ?_, X.same.2.2.2.1, ?_, X.same.2.2.2.2.2⟩ }
  · show T.heap.size ≤ _
    rw [hT]
    exact h2
  · show ((T.heap.toList.drop s.heap.size).map (·.slots.size)).sum ≤ slots'
    rw [hT]
    omega
end SimW
/-! locals -/
def lsR (ls : Array Slot) (lf : LV) : Prop := ls.size = lf.length ∧ lv_wf ls ∧ ∀ (i : Nat) (v : Value), lf[i]? = some (some v) → ls[i]? = some (.val v)
def pr (lf : LV) : List (Nat × Value) := (List.range lf.length).filterMap (fun i => match lf[i]? with | some (some v) => some (i, v) | _ => none)
theorem pr_mem {lf : LV} {i : Nat} {v : Value} : (i, v) ∈ pr lf ↔ lf[i]? = some (some v) := by
  unfold pr
  rw [List.mem_filterMap]
  constructor
  · rintro ⟨j, hj, h⟩
    split at h
    · next w hw => cases h; exact hw
    · cases h
  · intro h
    refine ⟨i, List.mem_range.mpr (List.getElem?_eq_some_iff.mp h).1, ?_⟩
    rw [h]
theorem lsR.has {ls : Array Slot} {lf : LV} (h : lsR ls lf) : lv_has ls lf.length (pr lf) := ⟨h.1, h.2.1, fun q hq => h.2.2 q.1 q.2 (pr_mem.mp hq)⟩
theorem stl_length (lf : LV) (i : Nat) (v : Value) : (stl lf i v).length = lf.length := by
  unfold stl
  cases i <;> simp
theorem stl2_length (lf : LV) (i : Nat) (v : Value) : (stl2 lf i v).length = lf.length := by
  unfold stl2
  cases i <;> simp
theorem clr_some {x : Option Value} {w : Value} (h : clr x = some w) : x = some w ∧ ¬ w.category = 2 := by
  cases x with
  | none => cases h
  | some y => cases y <;> simp [clr] at h <;> subst h <;> simp [Value.category]
theorem stl_get {lf : LV} {i j : Nat} {v w : Value} (hi : i < lf.length) (h : (stl lf i v)[j]? = some (some w)) : (j = i ∧ w = v) ∨ (j ≠ i ∧ lf[j]? = some (some w) ∧ ¬ (j + 1 = i ∧ w.category = 2)) := by
  by_cases hj : j = i
  · subst hj
    left
    refine ⟨rfl, ?_⟩
    unfold stl at h
    rw [List.getElem?_set_self (by cases j <;> simp <;> omega)] at h
    simp at h
    exact h.symm
  · right
    refine ⟨hj, ?_⟩
    unfold stl at h
    rw [List.getElem?_set_ne (fun q => hj q.symm)] at h
    cases i with
    | zero => exact ⟨h, fun q => by omega⟩
    | succ n =>
      simp only at h
      by_cases hn : j = n
      · subst hn
        rw [List.getElem?_set_self (by omega)] at h
        simp only [Option.some.injEq] at h
        obtain ⟨h1, h2⟩ := clr_some h
        refine ⟨?_, fun q => h2 q.2⟩
        rw [List.getD_eq_getElem?_getD] at h1
        rw [List.getElem?_eq_getElem (by omega)] at h1 ⊢
        exact congrArg some h1
      · rw [List.getElem?_set_ne (fun q => hn q.symm)] at h
        exact ⟨h, fun q => hn (by omega)⟩
theorem lsR_stl {ls ls' : Array Slot} {lf : LV} {i : Nat} {v : Value} (hi : i < lf.length) (h' : lv_has ls' lf.length ((i, v) :: (pr lf).filter (fun q => !(q.1 == i) && !(q.1 + 1 == i && q.2.category == 2)))) : lsR ls' (stl lf i v) := by
  refine ⟨by rw [stl_length]; exact h'.1, h'.2.1, fun j w hw => ?_⟩
  rcases stl_get hi hw with ⟨rfl, rfl⟩ | ⟨h1, h2, h3⟩
  · exact h'.2.2 (j, w) List.mem_cons_self
  · refine h'.2.2 (j, w) (List.mem_cons_of_mem _ (List.mem_filter.mpr ⟨pr_mem.mpr h2, ?_⟩))
    have h4 : ¬ ((j + 1 == i && w.category == 2) = true) := by
      intro q
      simp only [Bool.and_eq_true, beq_iff_eq] at q
      exact h3 q
    simp only [Bool.and_eq_true, Bool.not_eq_true', beq_eq_false_iff_ne, ne_eq]
    exact ⟨h1, by simpa using h4⟩
theorem lsR_stl2 {ls ls' : Array Slot} {lf : LV} {i : Nat} {v : Value} (hi : i + 1 < lf.length) (h' : lv_has ls' lf.length ((i, v) :: (pr lf).filter (fun q => !(q.1 == i) && (!(q.1 == i + 1) && !(q.1 + 1 == i && q.2.category == 2))))) : lsR ls' (stl2 lf i v) := by
  refine ⟨by rw [stl2_length]; exact h'.1, h'.2.1, fun j w hw => ?_⟩
  have e : stl2 lf i v = (stl lf i v).set (i + 1) none := rfl
  rw [e] at hw
  by_cases hj : j = i + 1
  · subst hj
    rw [List.getElem?_set_self (by rw [stl_length]; exact hi)] at hw
    cases hw
  · rw [List.getElem?_set_ne (fun q => hj q.symm)] at hw
    rcases stl_get (by omega) hw with ⟨rfl, rfl⟩ | ⟨h1, h2, h3⟩
    · exact h'.2.2 (j, w) List.mem_cons_self
    · refine h'.2.2 (j, w) (List.mem_cons_of_mem _ (List.mem_filter.mpr ⟨pr_mem.mpr h2, ?_⟩))
      have h4 : ¬ ((j + 1 == i && w.category == 2) = true) := by
        intro q
        simp only [Bool.and_eq_true, beq_iff_eq] at q
        exact h3 q
      simp only [Bool.and_eq_true, Bool.not_eq_true', beq_eq_false_iff_ne, ne_eq]
      exact ⟨h1, hj, by simpa using h4⟩
theorem ent_args : ∀ (vs : List Value) (i j : Nat) (v : Value), (ent vs)[j]? = some (some v) → (i + j, v) ∈ lv_args i vs
  | [], i, j, v, h => by simp [ent] at h
  | x :: r, i, j, v, h => by
    by_cases hx : x.category = 2
    · have e : ent (x :: r) = some x :: none :: ent r := by
        cases x <;> simp [Value.category] at hx <;> rfl
      rw [e] at h
      unfold lv_args
      rw [if_pos hx]
      match j, h with
      | 0, h => simp at h; subst h; exact List.mem_cons_self
      | 1, h => simp at h
      | j + 2, h =>
        have := ent_args r (i + 2) j v (by simpa using h)
        rw [show i + 2 + j = i + (j + 2) by omega] at this
        exact List.mem_cons_of_mem _ this
    · have e : ent (x :: r) = some x :: ent r := by
        cases x <;> simp [Value.category] at hx <;> rfl
      rw [e] at h
      unfold lv_args
      rw [if_neg hx]
      match j, h with
      | 0, h => simp at h; subst h; exact List.mem_cons_self
      | j + 1, h =>
        have := ent_args r (i + 1) j v (by simpa using h)
        rw [show i + 1 + j = i + (j + 1) by omega] at this
        exact List.mem_cons_of_mem _ this
theorem ent_length : ∀ vs : List Value, (ent vs).length = (lg_sl vs).length
  | [] => rfl
  | x :: r => by
    have := ent_length r
    cases x <;> simp [ent, lg_sl, Value.category] at * <;> omega
theorem lsR_entry (vs : List Value) {n : Nat} (h : (ent vs).length ≤ n) : lsR ((lg_sl vs ++ List.replicate (n - (lg_sl vs).length) Slot.unset).toArray) (entL vs n) := by
  have h' := lv_entry vs (n := n) (by rw [← ent_length]; exact h)
  have hn : (entL vs n).length = n := by unfold entL; simp; omega
  refine ⟨by rw [hn]; exact h'.1, h'.2.1, fun i v hv => ?_⟩
  refine h'.2.2 (i, v) ?_
  unfold entL at hv
  by_cases hi : i < (ent vs).length
  · rw [List.getElem?_append_left hi] at hv
    have := ent_args vs 0 i v hv
    rwa [Nat.zero_add] at this
  · rw [List.getElem?_append_right (by omega), List.getElem?_replicate] at hv
    split at hv <;> cases hv
