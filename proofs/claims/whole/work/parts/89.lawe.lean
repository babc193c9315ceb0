/-! THE START: what the tables and the start's heap say -/
def nW : List Cond := flatC (Jvm.Cond.and given_1 narrow_1)
def sR0 : List (String × Nat) := [(RX6, 249), (RX4, 117), (RX4, 123), (RX4, 150), (RX4, 152), (RX3, 135), (RX4, 138), (RX4, 163), (RX4, 165), (RX6, 220)]
def tmS (i : Nat) : Term := .string (sR0.getD i ("", 0)).1 (sR0.getD i ("", 0)).2
def nBs : List Nat := [101, 169, 178, 189, 195, 210, 228, 239, 247, 584]
def nB (i : Nat) : Nat := nBs.getD i 0
theorem nw_s : ∀ i, i < 10 → nW[nB i]? = some (.exactly (tmS i) "java/lang/String") ∧ nW[nB i + 1]? = some (.eq (.field (tmS i) "java/lang/String" "coder" "B") (.int 0)) ∧ nW[nB i + 2]? = some (.arrayOf (.field (tmS i) "java/lang/String" "value" "[B") .byte) ∧ nW[nB i + 3]? = some (.eq (.length (.field (tmS i) "java/lang/String" "value" "[B")) (.int (Int32.ofNat (sLen i)))) ∧ ∀ j, j < sLen i → nW[nB i + 4 + j]? = some (.eq (.elem (.field (tmS i) "java/lang/String" "value" "[B") (.int (Int32.ofNat j))) (.int (sByt i j))) := by decide +kernel
theorem sLen_31 : ∀ i, i < 10 → sLen i < 2 ^ 31 := by decide +kernel
theorem s_dif : ∀ i, i < 10 → ∀ j, j < 10 → sLen i = sLen j → (sLen i = 0 ∨ sByt i 0 = sByt j 0) → i = j := by decide +kernel
theorem str_at {args : Array Value} {s : State} {A : Nat → Prop} (hs : ∀ c ∈ nW, c.before args s = true) (hA : ∀ a : Nat, a < s.heap.size → ¬ A a) : ∃ adK adV : Nat → Nat, ∀ i, i < 10 → (tmS i).eval args s none [] s = some (.ref (adK i)) ∧ va_O "java/lang/String" (adK i) A s s.heap ∧ va_OF "java/lang/String" "coder" "B" (.int 0) (adK i) A s s.heap ∧ va_OF "java/lang/String" "value" "[B" (.ref (adV i)) (adK i) A s s.heap ∧ va_T .byte (adV i) (sLen i) (fun j => .int (sByt i j)) A s s.heap := by
  have h0 : ∀ i : Nat, ∃ q : Nat × Nat, i < 10 → (tmS i).eval args s none [] s = some (.ref q.1) ∧ va_O "java/lang/String" q.1 A s s.heap ∧ va_OF "java/lang/String" "coder" "B" (.int 0) q.1 A s s.heap ∧ va_OF "java/lang/String" "value" "[B" (.ref q.2) q.1 A s s.heap ∧ va_T .byte q.2 (sLen i) (fun j => .int (sByt i j)) A s s.heap := by
    intro i
    by_cases hi : i < 10
    · obtain ⟨e1, e2, e3, e4, e5⟩ := nw_s i hi
      obtain ⟨a, c, cA, kA, q1, q2, q3, q4, q5, q6, -⟩ := Cond.exactly_spec (args := args) (first := s) (o := none) (s := s) (idx := []) (t := tmS i) (cls := "java/lang/String") (hs _ (List.mem_of_getElem? e1))
      obtain ⟨t, ht, hT⟩ := va_Tof (f := fun j => .int (sByt i j)) (A := A) (sLen_31 i hi) (hs _ (List.mem_of_getElem? e3)) (va_eqt (hs _ (List.mem_of_getElem? e4))) (fun j hj => va_eqt (hs _ (List.mem_of_getElem? (e5 j hj)))) hA
      exact ⟨(a, t), fun _ => ⟨q1, ⟨cA, q3, q5, by rw [q6]; exact q2, hA a (Array.getElem?_eq_some_iff.mp q3).1⟩, vk_OFof q1 (va_eqt (hs _ (List.mem_of_getElem? e2))) hA, vk_OFof q1 ht hA, hT⟩⟩
    · exact ⟨(0, 0), fun h => absurd h hi⟩
  obtain ⟨ad, had⟩ := Classical.axiomOfChoice h0
  exact ⟨fun i => (ad i).1, fun i => (ad i).2, had⟩
theorem OF_same {o n d : String} {v v' : Value} {t : Nat} {A : Nat → Prop} {U : State} {H : Heap} (h1 : va_OF o n d v t A U H) (h2 : va_OF o n d v' t A U H) : v = v' := by
  obtain ⟨cf, k, i, f, cell, a1, a2, a3, a4, a5, a6⟩ := h1
  obtain ⟨cf', k', i', f', cell', b1, b2, b3, b4, b5, b6⟩ := h2
  cases a1.symm.trans b1
  cases a3.symm.trans b3
  exact Option.some.inj (a5.symm.trans b5)
theorem T_same {ty : FieldType} {t N N' : Nat} {f f' : Nat → Value} {A : Nat → Prop} {U : State} {H : Heap} (h1 : va_T ty t N f A U H) (h2 : va_T ty t N' f' A U H) (hN : N < 2 ^ 31) (hN' : N' < 2 ^ 31) : N = N' ∧ ∀ j, j < N → f j = f' j := by
  obtain ⟨cell, a1, a2, a3, a4, a5, a6, a7⟩ := h1
  obtain ⟨cell', b1, b2, b3, b4, b5, b6, b7⟩ := h2
  cases a1.symm.trans b1
  have e : nI N = nI N' := a5.symm.trans b5
  have e2 : N = N' := by
    have := congrArg Int32.toNatClampNeg e
    rw [nI_clamp hN, nI_clamp hN'] at this
    exact this
  exact ⟨e2, fun j hj => Option.some.inj ((a6 j hj).symm.trans (b6 j (by omega)))⟩
theorem T_type {ty ty' : FieldType} {t N N' : Nat} {f f' : Nat → Value} {A : Nat → Prop} {U : State} {H : Heap} (h1 : va_T ty t N f A U H) (h2 : va_T ty' t N' f' A U H) : ty = ty' := by
  obtain ⟨cell, a1, a2, -⟩ := h1
  obtain ⟨cell', b1, b2, -⟩ := h2
  cases a1.symm.trans b1
  obtain ⟨-, k, k1, comp, k2⟩ := a2
  obtain ⟨-, k', k1', comp', k2'⟩ := b2
  cases k1.symm.trans k1'
  cases k2.symm.trans k2'
  rfl
theorem fit_at {s : State} {t i : Nat} {cell : Cell} {v : Value} (hf : heapFits s = true) (h : s.heap[t]? = some cell) (hv : cell.slots[i]? = some v) : s.fitsSlot cell.cls cell.vm i v = true := by
  unfold heapFits at hf
  rw [Array.all_eq_true] at hf
  obtain ⟨ht, e⟩ := Array.getElem?_eq_some_iff.mp h
  have h1 := hf t ht
  rw [e] at h1
  unfold cellFits at h1
  have h2 := List.all_eq_true.mp h1 i (List.mem_range.mpr (Array.getElem?_eq_some_iff.mp hv).1)
  simpa [hv] using h2
theorem T_O {ty : FieldType} {E o n d : String} {t N : Nat} {f : Nat → Value} {v : Value} {A : Nat → Prop} {s : State} (hf : heapFits s = true) (h1 : va_T ty t N f A s s.heap) (h0 : va_O E t A s s.heap) (h2 : va_OF o n d v t A s s.heap) (hty : (ty = .byte ∧ ∃ a, v = .ref a) ∨ (ty = .int ∧ ∃ a, v = .ref a) ∨ (∃ C, ty = .object C) ∧ ∃ x, v = .int x) : False := by
  obtain ⟨cell, a1, a2, -⟩ := h1
  obtain ⟨cell0, c1, c2, -⟩ := h0
  obtain ⟨cf', k', i', fl, cell', b1, b2, b3, b4, b5, b6⟩ := h2
  cases a1.symm.trans b3
  cases a1.symm.trans c1
  obtain ⟨-, k, k1, comp, k2⟩ := a2
  have h := fit_at hf a1 b5
  unfold State.fitsSlot State.slotType? at h
  rcases hty with ⟨rfl, a, rfl⟩ | ⟨rfl, a, rfl⟩ | ⟨⟨C, rfl⟩, x, rfl⟩
  · cases hv : cell.vm <;> simp [hv, VmData.isStatics] at c2 <;> simp [hv, k1, k2, fits] at h
  · cases hv : cell.vm <;> simp [hv, VmData.isStatics] at c2 <;> simp [hv, k1, k2, fits] at h
  · cases hv : cell.vm <;> simp [hv, VmData.isStatics] at c2 <;> simp [hv, k1, k2, fits] at h
theorem nt_of {l : Launch} (h : l.flags = flags0) : l.stackTraces = false := by
  unfold Launch.stackTraces
  rw [h]
  decide
