/-! the world at the start -/
def nwN : Nat := 14
theorem nw_n : nW[nwN]? = some (.arrayOf (.static RX6 "NEEDED" "[I") .int) ∧ nW[nwN + 1]? = some (.eq (.length (.static RX6 "NEEDED" "[I")) (.int (Int32.ofNat 20))) ∧ ∀ j, j < 20 → nW[nwN + 2 + j]? = some (.eq (.elem (.static RX6 "NEEDED" "[I") (.int (Int32.ofNat j))) (.int (need j))) := by decide +kernel
theorem nw_c : ∀ i, i < 4 → ∀ j, j < 4 → ¬ i = j → Cond.not (.castable (exN i) (exN j)) ∈ nW := by decide +kernel
theorem nw_t : ∀ q ∈ tT, Cond.exactly (.string RX6 q.1) "java/lang/String" ∈ nW := by decide +kernel
theorem tw_t : ∀ q ∈ tT, Cond.stringRef RX6 q.1 q.2 ∈ lw_tbl := by decide +kernel
theorem tw_F : ∀ q ∈ nF, Cond.fieldLinkNest q.1 q.2.1 q.2.2.1 q.2.2.2.1 q.2.2.2.2 RX6 ∈ lw_tbl := by decide +kernel
theorem tw_M : ∀ q ∈ nM, Cond.methodLinkNest q.1 q.2.1 q.2.2 RX6 ∈ lw_tbl := by decide +kernel
theorem tw_O : ∀ c, c ≤ 8 → Cond.castable (clN c) "java/lang/Object" ∈ lw_tbl := by decide +kernel
theorem tw_D : ∀ q ∈ dD, Cond.declares q ∈ lw_tbl := by decide +kernel
theorem tw_C : ∀ q ∈ dC, Cond.castable q.1 q.2 ∈ lw_tbl := by decide +kernel
def GOK (g : Nat → Nat) (h0 : Nat) : Prop := (g 0 < h0 ∧ g 1 < h0 ∧ ∀ j, j < 10 → g (100 + j) < h0 ∧ g (200 + j) < h0) ∧ ¬ g 0 = g 1 ∧ (∀ j, j < 10 → (¬ g (100 + j) = g 0 ∧ ¬ g (100 + j) = g 1) ∧ ¬ g (200 + j) = g 0 ∧ ¬ g (200 + j) = g 1) ∧ (∀ i j, i < 10 → j < 10 → ¬ g (200 + i) = g (100 + j)) ∧ (∀ i j, i < 10 → j < 10 → g (100 + i) = g (100 + j) → i = j) ∧ ∀ i j, i < 10 → j < 10 → g (200 + i) = g (200 + j) → i = j
theorem vK_T {ty : FieldType} {t N : Nat} {f : Nat → Value} {s : State} (h : va_T ty t N f (A0 s) s s.heap) : t < s.heap.size := by
  obtain ⟨cell, h1, -⟩ := h
  exact (Array.getElem?_eq_some_iff.mp h1).1
theorem vK_O {E : String} {t : Nat} {s : State} (h : va_O E t (A0 s) s s.heap) : t < s.heap.size := by
  obtain ⟨cell, h1, -⟩ := h
  exact (Array.getElem?_eq_some_iff.mp h1).1
theorem byt_inj {s : State} {a a' i j : Nat} (hi : i < 10) (hj : j < 10) (h1 : va_T .byte a (sLen i) (fun k => .int (sByt i k)) (A0 s) s s.heap) (h2 : va_T .byte a' (sLen j) (fun k => .int (sByt j k)) (A0 s) s s.heap) (e : a = a') : i = j := by
  subst e
  obtain ⟨e1, e2⟩ := T_same h1 h2 (sLen_31 i hi) (sLen_31 j hj)
  refine s_dif i hi j hj e1 ?_
  rcases Nat.eq_zero_or_pos (sLen i) with q | q
  · exact Or.inl q
  · have e3 : Value.int (sByt i 0) = Value.int (sByt j 0) := e2 0 q
    exact Or.inr (Value.int.inj e3)
theorem str_inj {s : State} {a a' v v' i j : Nat} (hi : i < 10) (hj : j < 10) (h0 : va_OF "java/lang/String" "value" "[B" (.ref v) a (A0 s) s s.heap) (h1 : va_T .byte v (sLen i) (fun k => .int (sByt i k)) (A0 s) s s.heap) (h0' : va_OF "java/lang/String" "value" "[B" (.ref v') a' (A0 s) s s.heap) (h2 : va_T .byte v' (sLen j) (fun k => .int (sByt j k)) (A0 s) s s.heap) (e : a = a') : i = j := by
  subst e
  have e1 : Value.ref v = Value.ref v' := OF_same h0 h0'
  exact byt_inj hi hj h1 h2 (Value.ref.inj e1)
set_option maxHeartbeats 2000000 in
theorem env_start {s : State} {b : Nat} (hts : ∀ w ∈ lw_tbl, w.before #[Value.ref b] s = true) (hgv : (Jvm.Cond.and given_1 narrow_1).before #[Value.ref b] s = true) (hf : heapFits s = true) : ∃ (D : va_G) (g : Nat → Nat) (gL : Nat), LwC D g gL s ∧ GOK g s.heap.size := by
  have hs : ∀ c ∈ nW, c.before #[Value.ref b] s = true := flat_of_before _ hgv
  have hA : ∀ a : Nat, a < s.heap.size → ¬ A0 s a := fun a h => Nat.not_le.mpr h
  obtain ⟨adK, adV, hK⟩ := str_at hs hA
  obtain ⟨tN, eN, TN⟩ := va_Tof (tm := .static RX6 "NEEDED" "[I") (ty := .int) (N := 20) (f := fun j => .int (need j)) (A := A0 s) (by decide) (hs _ (List.mem_of_getElem? nw_n.1)) (va_eqt (hs _ (List.mem_of_getElem? nw_n.2.1))) (fun j hj => va_eqt (hs _ (List.mem_of_getElem? (nw_n.2.2 j hj)))) hA
  obtain ⟨tE, eE, TE⟩ := va_Tof (tm := .static RJx4a65c "DEFAULTCAPACITY_EMPTY_ELEMENTDATA" "[Ljava/lang/Object;") (ty := .object "java/lang/Object") (N := 0) (f := fun _ => .null) (A := A0 s) (by decide) (hs (.arrayOf (.static RJx4a65c "DEFAULTCAPACITY_EMPTY_ELEMENTDATA" "[Ljava/lang/Object;") (.object "java/lang/Object")) (by decide +kernel)) (va_eqt (hs (.eq (.length (.static RJx4a65c "DEFAULTCAPACITY_EMPTY_ELEMENTDATA" "[Ljava/lang/Object;")) (.int (Int32.ofNat 0))) (by decide +kernel))) (fun j hj => absurd hj (Nat.not_lt_zero _)) hA
  have ZN : va_Z RX6 "NEEDED" "[I" (.ref tN) (A0 s) s s.heap := va_Zof (hts (.laysStatic RX6 "NEEDED" "[I") (by decide +kernel)) (hts (.initialized RX6) (by decide +kernel)) eN hA
  have ZE : va_Z RJx4a65c "DEFAULTCAPACITY_EMPTY_ELEMENTDATA" "[Ljava/lang/Object;" (.ref tE) (A0 s) s s.heap := va_Zof (hts (.laysStatic RJx4a65c "DEFAULTCAPACITY_EMPTY_ELEMENTDATA" "[Ljava/lang/Object;") (by decide +kernel)) (hts (.initialized RJx4a65c) (by decide +kernel)) eE hA
  have ZC : va_Z RJ0 "COMPACT_STRINGS" "Z" (.int 1) (A0 s) s s.heap := va_Zof (hts (.laysStatic RJ0 "COMPACT_STRINGS" "Z") (by decide +kernel)) (hts (.initialized RJ0) (by decide +kernel)) (va_eqi (hs (.eq (.static RJ0 "COMPACT_STRINGS" "Z") (.int 1)) (by decide +kernel))) hA
  obtain ⟨gS, ZS⟩ : ∃ gS : Nat, va_Z RJ3 "SIOOBE_FORMATTER" "Ljava/util/function/BiFunction;" (va_rf (if gS = 0 then none else some (gS - 1))) (A0 s) s s.heap := by
    rcases va_Zqof (A := A0 s) (hts (.laysStatic RJ3 "SIOOBE_FORMATTER" "Ljava/util/function/BiFunction;") (by decide +kernel)) (hts (.initialized RJ3) (by decide +kernel)) (hs (.isRef (.static RJ3 "SIOOBE_FORMATTER" "Ljava/util/function/BiFunction;")) (by decide +kernel)) hA with h | ⟨t, h⟩
    · exact ⟨0, h⟩
    · exact ⟨t + 1, h⟩
  have ZU : vx_Zq Bundle.tN "UNASSIGNED_STACK" Bundle.steD (A0 s) s s.heap := vx_Zqof (hts (.laysStatic Bundle.tN "UNASSIGNED_STACK" Bundle.steD) (by decide +kernel)) (hts (.initialized Bundle.tN) (by decide +kernel)) (hs (.isRef (.static Bundle.tN "UNASSIGNED_STACK" Bundle.steD)) (by decide +kernel)) hA
  have ZQ : vx_Zq Bundle.tN "SUPPRESSED_SENTINEL" Bundle.listD (A0 s) s s.heap := vx_Zqof (hts (.laysStatic Bundle.tN "SUPPRESSED_SENTINEL" Bundle.listD) (by decide +kernel)) (hts (.initialized Bundle.tN) (by decide +kernel)) (hs (.isRef (.static Bundle.tN "SUPPRESSED_SENTINEL" Bundle.listD)) (by decide +kernel)) hA
  obtain ⟨cI, kI, pI, i1, i2, i3⟩ := Cond.arrayClass_spec (hts (.arrayClass .int) (by decide +kernel))
  obtain ⟨cC, kC, pC, c1, c2, c3⟩ := Cond.arrayClass_spec (hts (.arrayClass .char) (by decide +kernel))
  obtain ⟨cL, kL, pL, l1, l2, l3⟩ := Cond.arrayClass_spec (hts (.arrayClass .long) (by decide +kernel))
  have wT := hts (.arrayOver (.object RX5)) (by decide +kernel)
  have wO := hts (.arrayOver (.object "java/lang/Object")) (by decide +kernel)
  obtain ⟨pT, cT, kT, t1, t2, t3, t4, t5⟩ := Cond.arrayOver_spec wT
  obtain ⟨pO, cO, kO, o1, o2, o3, o4, o5⟩ := Cond.arrayOver_spec wO
  obtain ⟨mi, hmi⟩ := va_Mi.of (hs (.isRef (.mirror "[Ljava/lang/Object;")) (by decide +kernel))
  have hkn : ∀ c : Nat, ∃ q : ClassId × (Nat → Nat), c ≤ 8 → u_Kn s (clN c) (clT c) (fN c) q.1 q.2 := by
    intro c
    by_cases hc : c ≤ 8
    · obtain ⟨-, h2, h3, -⟩ := cl_ok c hc
      obtain ⟨cC, iS, h⟩ := u_known (fun w hw => hts w (gW_in w hw)) h2 (hts _ (gW_in _ h3))
      exact ⟨(cC, iS), fun _ => h⟩
    · exact ⟨(0, fun _ => 0), fun h => absurd h hc⟩
  obtain ⟨dd, hdd⟩ := Classical.axiomOfChoice hkn
  obtain ⟨g, g0, g1, g2, g3, g4, g5, g6, g7, hgK, hgV⟩ : ∃ g : Nat → Nat, g 0 = tN ∧ g 1 = tE ∧ g 2 = cI ∧ g 3 = cC ∧ g 4 = cT ∧ g 5 = cO ∧ g 6 = gS ∧ g 7 = mi ∧ (∀ j, j < 10 → g (100 + j) = adK j) ∧ ∀ j, j < 10 → g (200 + j) = adV j := by
    refine ⟨fun k => if 200 ≤ k then adV (k - 200) else if 100 ≤ k then adK (k - 100) else ([tN, tE, cI, cC, cT, cO, gS, mi] : List Nat).getD k 0, rfl, rfl, rfl, rfl, rfl, rfl, rfl, rfl, fun j hj => ?_, fun j hj => ?_⟩
    · show (if 200 ≤ 100 + j then adV (100 + j - 200) else if 100 ≤ 100 + j then adK (100 + j - 100) else _) = adK j
      rw [if_neg (by omega), if_pos (by omega), Nat.add_sub_cancel_left]
    · show (if 200 ≤ 200 + j then adV (200 + j - 200) else _) = adV j
      rw [if_pos (by omega), Nat.add_sub_cancel_left]
  have hKc : ∀ (c : Nat) (q : vw_C), vwCl[c]? = some q → u_Kn s q.1 q.2.1 q.2.2 (dd c).1 (dd c).2 := by
    intro c q hq
    have hc : c ≤ 8 := by
      have h9 : c < vwCl.length := (List.getElem?_eq_some_iff.mp hq).1
      have h10 : vwCl.length = 9 := rfl
      omega
    obtain ⟨h1, -⟩ := cl_ok c hc
    cases h1.symm.trans hq
    exact hdd c hc
  refine ⟨(fun c => (dd c).1, fun c => (dd c).2), g, cL, ⟨⟨⟨hKc, fun k q hk => ?_⟩, fun q hq => va_Nw.of rfl (hts _ (tw_F q hq)), fun q hq => va_Nw.of rfl (hts _ (tw_M q hq)), fun c hc => va_Nw.of rfl (hts _ (tw_O c hc)), va_AO.of wO, va_AO.of wT, by rw [g7]; exact hmi, va_Dc.of (hts (.declares ⟨"java/lang/Object", "getClass", "()Ljava/lang/Class;"⟩) (by decide +kernel)), va_Nw.of rfl (hts (.fieldLinkNest RX1 106 RX6 "NEEDED" "[I" RX6) (by decide +kernel)), fun q hq => ?_, fun q hq => ?_, fun q hq => va_Nw.of rfl (hts _ (tw_D q hq)), fun q hq => va_Nw.of rfl (hts _ (tw_C q hq))⟩,
    ⟨by rw [g0]; exact ZN, by rw [g0]; exact TN, by rw [g1]; exact ZE, by rw [g1]; exact TE, ZC, by rw [g6]; exact ZS, ⟨fun i hi => ?_, fun i j hi hj e => ?_⟩, ZU, ZQ⟩, ⟨hKc, fun k q hk => ?_⟩, fun i j hi hj hn => va_Nc.of (hs _ (nw_c i hi j hj hn))⟩, ?_⟩
  · match k, hk with
    | 0, hk => cases hk; rw [g2]; exact ⟨fun n z => ⟨fun k h => (by cases h), kI, i2, pI, i3⟩, i1⟩
    | 1, hk => cases hk; rw [g3]; exact ⟨fun n z => ⟨fun k h => (by cases h), kC, c2, pC, c3⟩, c1⟩
    | 2, hk => cases hk; rw [g4]; exact ⟨fun n z => ⟨fun k h => (by cases h), kT, t3, pT, t4⟩, kT, pT, t3, t4, t1, t5⟩
    | 3, hk => cases hk; rw [g5]; exact ⟨fun n z => ⟨fun k h => (by cases h), kO, o3, pO, o4⟩, kO, pO, o3, o4, o1, o5⟩
    | k + 4, hk => simp [tyG] at hk
  · simp only [sT, List.mem_cons, List.not_mem_nil, or_false] at hq
    rcases hq with rfl | rfl | rfl | rfl | rfl | rfl | rfl | rfl | rfl | rfl | rfl | rfl | rfl
    · exact vk_R.of (hts (.stringRef RX3 133 " and ") (by decide +kernel)) (by show _ = some (Value.ref (g (100 + 1))); rw [hgK 1 (by decide)]; exact (va_eqR (hs (.eq (.string RX4 117) (.string RX3 133)) (by decide +kernel)) ((hK 1 (by decide)).1)))
    · exact vk_R.of (hts (.stringRef RX3 135 ", ") (by decide +kernel)) (by show _ = some (Value.ref (g (100 + 5))); rw [hgK 5 (by decide)]; exact (hK 5 (by decide)).1)
    · exact vk_R.of (hts (.stringRef RX3 150 " et al.") (by decide +kernel)) (by show _ = some (Value.ref (g (100 + 2))); rw [hgK 2 (by decide)]; exact (va_eqR (hs (.eq (.string RX4 123) (.string RX3 150)) (by decide +kernel)) ((hK 2 (by decide)).1)))
    · exact vk_R.of (hts (.stringRef RX4 117 " and ") (by decide +kernel)) (by show _ = some (Value.ref (g (100 + 1))); rw [hgK 1 (by decide)]; exact (hK 1 (by decide)).1)
    · exact vk_R.of (hts (.stringRef RX4 123 " et al.") (by decide +kernel)) (by show _ = some (Value.ref (g (100 + 2))); rw [hgK 2 (by decide)]; exact (hK 2 (by decide)).1)
    · exact vk_R.of (hts (.stringRef RX4 138 "") (by decide +kernel)) (by show _ = some (Value.ref (g (100 + 6))); rw [hgK 6 (by decide)]; exact (hK 6 (by decide)).1)
    · exact vk_R.of (hts (.stringRef RX4 150 ". ") (by decide +kernel)) (by show _ = some (Value.ref (g (100 + 3))); rw [hgK 3 (by decide)]; exact (hK 3 (by decide)).1)
    · exact vk_R.of (hts (.stringRef RX4 152 " ") (by decide +kernel)) (by show _ = some (Value.ref (g (100 + 4))); rw [hgK 4 (by decide)]; exact (hK 4 (by decide)).1)
    · exact vk_R.of (hts (.stringRef RX4 157 ", ") (by decide +kernel)) (by show _ = some (Value.ref (g (100 + 5))); rw [hgK 5 (by decide)]; exact (va_eqR (hs (.eq (.string RX3 135) (.string RX4 157)) (by decide +kernel)) ((hK 5 (by decide)).1)))
    · exact vk_R.of (hts (.stringRef RX4 163 "In: ") (by decide +kernel)) (by show _ = some (Value.ref (g (100 + 7))); rw [hgK 7 (by decide)]; exact (hK 7 (by decide)).1)
    · exact vk_R.of (hts (.stringRef RX4 165 ", pp. ") (by decide +kernel)) (by show _ = some (Value.ref (g (100 + 8))); rw [hgK 8 (by decide)]; exact (hK 8 (by decide)).1)
    · exact vk_R.of (hts (.stringRef RX6 220 "References (") (by decide +kernel)) (by show _ = some (Value.ref (g (100 + 9))); rw [hgK 9 (by decide)]; exact (hK 9 (by decide)).1)
    · exact vk_R.of (hts (.stringRef RX6 249 "aaaaaaaceeeeiiiidnooooo-ouuuuytsaaaaaaaceeeeiiiidnooooo-ouuuuyty") (by decide +kernel)) (by show _ = some (Value.ref (g (100 + 0))); rw [hgK 0 (by decide)]; exact (hK 0 (by decide)).1)
  · obtain ⟨a, c, cA, kA, q1, -⟩ := Cond.exactly_spec (args := #[Value.ref b]) (first := s) (o := none) (s := s) (idx := []) (t := .string RX6 q.1) (cls := "java/lang/String") (hs _ (nw_t q hq))
    exact ⟨a, vk_R.of (hts _ (tw_t q hq)) q1⟩
  · show va_O "java/lang/String" (g (100 + i)) (A0 s) s s.heap ∧ va_OF "java/lang/String" "coder" "B" (.int 0) (g (100 + i)) (A0 s) s s.heap ∧ va_OF "java/lang/String" "value" "[B" (.ref (g (200 + i))) (g (100 + i)) (A0 s) s s.heap ∧ va_T .byte (g (200 + i)) (sLen i) (fun j => .int (sByt i j)) (A0 s) s s.heap
    rw [hgK i hi, hgV i hi]
    exact (hK i hi).2
  · have e : g (100 + i) = g (100 + j) := e
    rw [hgK i hi, hgK j hj] at e
    exact str_inj hi hj (hK i hi).2.2.2.1 (hK i hi).2.2.2.2 (hK j hj).2.2.2.1 (hK j hj).2.2.2.2 e
  · match k, hk with
    | 0, hk => cases hk; exact ⟨fun n z => ⟨fun k h => (by cases h), kL, l2, pL, l3⟩, l1⟩
    | k + 1, hk => simp at hk
  · refine ⟨⟨by rw [g0]; exact vK_T TN, by rw [g1]; exact vK_T TE, fun j hj => ⟨by rw [hgK j hj]; exact vK_O (hK j hj).2.1, by rw [hgV j hj]; exact vK_T (hK j hj).2.2.2.2⟩⟩, fun e => ?_, fun j hj => ⟨⟨fun e => ?_, fun e => ?_⟩, fun e => ?_, fun e => ?_⟩, fun i j hi hj e => ?_, fun i j hi hj e => ?_, fun i j hi hj e => ?_⟩
    · rw [g0, g1] at e
      rw [e] at TN
      cases T_type TN TE
    · rw [hgK j hj, g0] at e
      rw [← e] at TN
      exact T_O hf TN (hK j hj).2.1 (hK j hj).2.2.2.1 (Or.inr (Or.inl ⟨rfl, _, rfl⟩))
    · rw [hgK j hj, g1] at e
      rw [← e] at TE
      exact T_O hf TE (hK j hj).2.1 (hK j hj).2.2.1 (Or.inr (Or.inr ⟨⟨_, rfl⟩, _, rfl⟩))
    · rw [hgV j hj, g0] at e
      rw [← e] at TN
      cases T_type TN (hK j hj).2.2.2.2
    · rw [hgV j hj, g1] at e
      rw [← e] at TE
      cases T_type TE (hK j hj).2.2.2.2
    · rw [hgV i hi, hgK j hj] at e
      have T := (hK i hi).2.2.2.2
      rw [e] at T
      exact T_O hf T (hK j hj).2.1 (hK j hj).2.2.2.1 (Or.inl ⟨rfl, _, rfl⟩)
    · rw [hgK i hi, hgK j hj] at e
      exact str_inj hi hj (hK i hi).2.2.2.1 (hK i hi).2.2.2.2 (hK j hj).2.2.2.1 (hK j hj).2.2.2.2 e
    · rw [hgV i hi, hgV j hj] at e
      exact byt_inj hi hj (hK i hi).2.2.2.2 (hK j hj).2.2.2.2 e
