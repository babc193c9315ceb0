def sLs : List Nat := [64, 5, 7, 2, 1, 2, 0, 4, 6, 12]
def sBs : List (List Int32) := [[97, 97, 97, 97, 97, 97, 97, 99, 101, 101, 101, 101, 105, 105, 105, 105, 100, 110, 111, 111, 111, 111, 111, 45, 111, 117, 117, 117, 117, 121, 116, 115, 97, 97, 97, 97, 97, 97, 97, 99, 101, 101, 101, 101, 105, 105, 105, 105, 100, 110, 111, 111, 111, 111, 111, 45, 111, 117, 117, 117, 117, 121, 116, 121], [32, 97, 110, 100, 32], [32, 101, 116, 32, 97, 108, 46], [46, 32], [32], [44, 32], [], [73, 110, 58, 32], [44, 32, 112, 112, 46, 32], [82, 101, 102, 101, 114, 101, 110, 99, 101, 115, 32, 40]]
def sLen (j : Nat) : Nat := sLs.getD j 0
def sByt (j i : Nat) : Int32 := (sBs.getD j []).getD i 0
def needs : List Int32 := [0, 1, 2, 3, 0, 1, 2, 4, 0, 1, 2, 6, 1, 2, -1, -1, 1, -1, -1, -1]
def need (j : Nat) : Int32 := needs.getD j 0
/-- the texts that the class loads: class, place, text, number -/
def sT : List (String × Nat × String × Nat) := [(RX3, 133, " and ", 1), (RX3, 135, ", ", 5), (RX3, 150, " et al.", 2), (RX4, 117, " and ", 1), (RX4, 123, " et al.", 2), (RX4, 138, "", 6), (RX4, 150, ". ", 3), (RX4, 152, " ", 4), (RX4, 157, ", ", 5), (RX4, 163, "In: ", 7), (RX4, 165, ", pp. ", 8), (RX6, 220, "References (", 9), (RX6, 249, "aaaaaaaceeeeiiiidnooooo-ouuuuytsaaaaaaaceeeeiiiidnooooo-ouuuuyty", 0)]
/-- the texts of what is thrown -/
def tT : List (Nat × String) := [(56, "there are 24 entries"), (201, "there is no such entry"), (245, "a byte is no character"), (247, "there is no place for so many characters"), (83, "there is no such field"), (90, "there are 60 citations"), (102, "a sort and a label are 0 to 2"), (204, "there is no such row"), (162, "there is no such person"), (231, "there is no such character"), (179, "nothing such is missing"), (218, "no run was"), (197, "there are not so many entries twice")]
theorem lS_ok : ∀ o i j, lS o i = some j → ∃ tx, (ownS o, i, tx, j) ∈ sT ∧ j < 10 := by
  intro o i j h
  unfold lS at h
  split at h
  · cases h; exact ⟨" and ", by decide +kernel, by decide⟩
  · cases h; exact ⟨", ", by decide +kernel, by decide⟩
  · cases h; exact ⟨" et al.", by decide +kernel, by decide⟩
  · cases h; exact ⟨" and ", by decide +kernel, by decide⟩
  · cases h; exact ⟨" et al.", by decide +kernel, by decide⟩
  · cases h; exact ⟨"", by decide +kernel, by decide⟩
  · cases h; exact ⟨". ", by decide +kernel, by decide⟩
  · cases h; exact ⟨" ", by decide +kernel, by decide⟩
  · cases h; exact ⟨", ", by decide +kernel, by decide⟩
  · cases h; exact ⟨"In: ", by decide +kernel, by decide⟩
  · cases h; exact ⟨", pp. ", by decide +kernel, by decide⟩
  · cases h; exact ⟨"References (", by decide +kernel, by decide⟩
  · cases h; exact ⟨"aaaaaaaceeeeiiiidnooooo-ouuuuytsaaaaaaaceeeeiiiidnooooo-ouuuuyty", by decide +kernel, by decide⟩
  · cases h
def dD : List MethodName := [⟨"java/lang/RuntimeException", "<init>", "(Ljava/lang/String;)V"⟩, ⟨"java/lang/Exception", "<init>", "(Ljava/lang/String;)V"⟩, ⟨"java/lang/Throwable", "<init>", "(Ljava/lang/String;)V"⟩]
def dC : List (String × String) := [("java/util/NoSuchElementException", "java/util/NoSuchElementException"), ("java/lang/IndexOutOfBoundsException", "java/lang/IndexOutOfBoundsException"), ("java/lang/IllegalArgumentException", "java/lang/IllegalArgumentException"), ("java/lang/UnsupportedOperationException", "java/lang/UnsupportedOperationException")]
/-! an object's fields, by its kind -/
def flds (c : Nat) (I : Nat → Int32) (P : Nat → Option Nat) : List Value := (fBs.getD c []).mapIdx (fun k b => if b = true then va_rf (P k) else .int (I k))
theorem flds_len (c : Nat) (I : Nat → Int32) (P : Nat → Option Nat) : (flds c I P).length = fN c := by simp [flds, fN]
theorem flds_get {c k : Nat} (I : Nat → Int32) (P : Nat → Option Nat) (h : k < fN c) : (flds c I P)[k]? = some (if fB c k = true then va_rf (P k) else .int (I k)) := by
  unfold fN at h
  unfold flds fB
  rw [List.getElem?_mapIdx, List.getElem?_eq_getElem h, List.getD_eq_getElem?_getD (l := fBs.getD c []), List.getElem?_eq_getElem h]
  rfl
theorem flds_out {c k : Nat} (I : Nat → Int32) (P : Nat → Option Nat) (h : fN c ≤ k) : (flds c I P)[k]? = none := by
  rw [List.getElem?_eq_none_iff, flds_len]
  exact h
theorem flds_setI {c k : Nat} {I : Nat → Int32} {P : Nat → Option Nat} (h : k < fN c) (hb : fB c k = false) (x : Int32) : (flds c I P).set k (.int x) = flds c (fun j => if j = k then x else I j) P := by
  apply List.ext_getElem?
  intro j
  by_cases hj : j = k
  · subst hj
    rw [List.getElem?_set_self (by rw [flds_len]; exact h), flds_get _ _ h, hb]
    simp
  · rw [List.getElem?_set_ne (fun q => hj q.symm)]
    by_cases hl : j < fN c
    · rw [flds_get _ _ hl, flds_get _ _ hl]
      simp [hj]
    · rw [flds_out _ _ (by omega), flds_out _ _ (by omega)]
theorem flds_setP {c k : Nat} {I : Nat → Int32} {P : Nat → Option Nat} (h : k < fN c) (hb : fB c k = true) (x : Option Nat) : (flds c I P).set k (va_rf x) = flds c I (fun j => if j = k then x else P j) := by
  apply List.ext_getElem?
  intro j
  by_cases hj : j = k
  · subst hj
    rw [List.getElem?_set_self (by rw [flds_len]; exact h), flds_get _ _ h, hb]
    simp
  · rw [List.getElem?_set_ne (fun q => hj q.symm)]
    by_cases hl : j < fN c
    · rw [flds_get _ _ hl, flds_get _ _ hl]
      simp [hj]
    · rw [flds_out _ _ (by omega), flds_out _ _ (by omega)]
/-- the cell at an address -/
def cel (g : Nat → Nat) (σ : PS) (a : Nat) : va_E :=
  if zK σ a = 101 then .inl (g 2, zL σ a, .inl (zI σ a))
  else if zK σ a = 102 then .inl (g 3, zL σ a, .inl (zI σ a))
  else if zK σ a = 103 then .inl (g 4, zL σ a, .inr (.inr (.inr (.inr (zP σ a)))))
  else if zK σ a = 104 then .inl (g 5, zL σ a, .inr (.inr (.inr (.inr (zP σ a)))))
  else .inr (zK σ a - 1, flds (zK σ a - 1) (zI σ a) (zP σ a))
def live (κ : Nat) : Prop := (1 ≤ κ ∧ κ ≤ 9) ∨ (101 ≤ κ ∧ κ ≤ 104)
/-- what a method that begins at σ0 may write -/
def Ar (σ0 : PS) : Nat → Prop := fun q => live (zK σ0 q) ∨ zN σ0 ≤ q
abbrev tyG (g : Nat → Nat) : List (ClassId × FieldType) := [(g 2, .int), (g 3, .char), (g 4, .object RX5), (g 5, .object "java/lang/Object")]
/-- the heap holds what the pure state says -/
def Pl (D : va_G) (g : Nat → Nat) (A : Nat → Prop) (σ : PS) (H : Heap) : Prop := ∃ Ls : List Nat, (∀ a, a ∈ Ls ↔ live (zK σ a)) ∧ va_P D vwCl (va_pl Ls (cel g σ)) H ∧ va_D A (va_pl Ls (cel g σ))
/-- the constants, as the pure state has them -/
def cOK (g : Nat → Nat) (σ : PS) : Prop := ∀ a, 1000 ≤ zK σ a →
  (zK σ a = 1000 ∧ ∃ j, j < 10 ∧ a = g (100 + j) ∧ zP σ a 0 = some (g (200 + j)) ∧ zI σ a 1 = 0) ∨
  (zK σ a = 1001 ∧ ∃ j, j < 10 ∧ a = g (200 + j) ∧ zL σ a = sLen j ∧ ∀ i, i < sLen j → zI σ a i = sByt j i) ∨
  (zK σ a = 1002 ∧ a = g 0 ∧ zL σ a = 20 ∧ ∀ i, i < 20 → zI σ a i = need i) ∨
  (zK σ a = 1003 ∧ a = g 1 ∧ zL σ a = 0)
theorem c_stI {g : Nat → Nat} {σ : PS} (h : cOK g σ) {a k : Nat} {v : Int32} (ha : zK σ a < 1000) : cOK g (stI σ a k v) := by
  intro b hb
  have hb' : 1000 ≤ zK σ b := hb
  have hne : b ≠ a := fun e => by subst e; omega
  have e : zI (stI σ a k v) b = zI σ b := by funext j; simp [zI, stI, hne]
  have h1 := h b hb'
  rw [← e] at h1
  exact h1
theorem c_stP {g : Nat → Nat} {σ : PS} (h : cOK g σ) {a k : Nat} {v : Option Nat} (ha : zK σ a < 1000) : cOK g (stP σ a k v) := by
  intro b hb
  have hb' : 1000 ≤ zK σ b := hb
  have hne : b ≠ a := fun e => by subst e; omega
  have e : zP (stP σ a k v) b = zP σ b := by funext j; simp [zP, stP, hne]
  have h1 := h b hb'
  rw [← e] at h1
  exact h1
theorem c_cpI {g : Nat → Nat} {σ : PS} (h : cOK g σ) {a sp x dp n : Nat} (ha : zK σ x < 1000) : cOK g (cpI σ a sp x dp n) := by
  intro b hb
  have hb' : 1000 ≤ zK σ b := hb
  have hne : b ≠ x := fun e => by subst e; omega
  have e : zI (cpI σ a sp x dp n) b = zI σ b := by funext j; simp [zI, cpI, hne]
  have h1 := h b hb'
  rw [← e] at h1
  exact h1
theorem c_cpP {g : Nat → Nat} {σ : PS} (h : cOK g σ) {a sp x dp n : Nat} (ha : zK σ x < 1000) : cOK g (cpP σ a sp x dp n) := by
  intro b hb
  have hb' : 1000 ≤ zK σ b := hb
  have hne : b ≠ x := fun e => by subst e; omega
  have e : zP (cpP σ a sp x dp n) b = zP σ b := by funext j; simp [zP, cpP, hne]
  have h1 := h b hb'
  rw [← e] at h1
  exact h1
theorem c_alO {g : Nat → Nat} {σ : PS} (h : cOK g σ) {κ N : Nat} (ha : κ < 1000) : cOK g (alO σ κ N) := by
  intro b hb
  by_cases hne : b = zN σ
  · subst hne
    simp [zK, alO] at hb
    omega
  · have e0 : zK (alO σ κ N) b = zK σ b := by simp [zK, alO, hne]
    have e1 : zI (alO σ κ N) b = zI σ b := by funext j; simp [zI, alO, hne]
    have e2 : zP (alO σ κ N) b = zP σ b := by funext j; simp [zP, alO, hne]
    rw [e0] at hb
    have h1 := h b hb
    rw [e0, e1, e2]
    exact h1
theorem c_alA {g : Nat → Nat} {σ : PS} (h : cOK g σ) {κ N : Nat} (ha : κ < 1000) : cOK g (alA σ κ N) := by
  intro b hb
  by_cases hne : b = zN σ
  · subst hne
    simp [zK, alA] at hb
    omega
  · have e0 : zK (alA σ κ N) b = zK σ b := by simp [zK, alA, hne]
    have e1 : zI (alA σ κ N) b = zI σ b := by funext j; simp [zI, alA, hne]
    have e2 : zP (alA σ κ N) b = zP σ b := by funext j; simp [zP, alA, hne]
    have e3 : zL (alA σ κ N) b = zL σ b := by simp [zL, alA, hne]
    rw [e0] at hb
    have h1 := h b hb
    rw [e0, e1, e2, e3]
    exact h1
/-! cells behind a store -/
theorem cel_obj {g : Nat → Nat} {σ : PS} {a c : Nat} (hc : c ≤ 8) (h : zK σ a = c + 1) : cel g σ a = .inr (c, flds c (zI σ a) (zP σ a)) := by
  unfold cel
  rw [h, if_neg (by omega), if_neg (by omega), if_neg (by omega), if_neg (by omega), Nat.add_sub_cancel]
theorem cel_101 {g : Nat → Nat} {σ : PS} {a : Nat} (h : zK σ a = 101) : cel g σ a = .inl (g 2, zL σ a, .inl (zI σ a)) := by
  unfold cel
  rw [if_pos h]
theorem cel_102 {g : Nat → Nat} {σ : PS} {a : Nat} (h : zK σ a = 102) : cel g σ a = .inl (g 3, zL σ a, .inl (zI σ a)) := by
  unfold cel
  rw [if_neg (by omega), if_pos h]
theorem cel_103 {g : Nat → Nat} {σ : PS} {a : Nat} (h : zK σ a = 103) : cel g σ a = .inl (g 4, zL σ a, .inr (.inr (.inr (.inr (zP σ a))))) := by
  unfold cel
  rw [if_neg (by omega), if_neg (by omega), if_pos h]
theorem cel_104 {g : Nat → Nat} {σ : PS} {a : Nat} (h : zK σ a = 104) : cel g σ a = .inl (g 5, zL σ a, .inr (.inr (.inr (.inr (zP σ a))))) := by
  unfold cel
  rw [if_neg (by omega), if_neg (by omega), if_neg (by omega), if_pos h]
theorem cel_congr {g : Nat → Nat} {σ τ : PS} {b : Nat} (h0 : zK τ b = zK σ b) (h1 : zL τ b = zL σ b) (h2 : zI τ b = zI σ b) (h3 : zP τ b = zP σ b) : cel g τ b = cel g σ b := by
  unfold cel
  rw [h0, h1, h2, h3]
theorem cel_up {g : Nat → Nat} {σ τ : PS} {a : Nat} {x : va_E} (ha : cel g τ a = x) (ho : ∀ b, b ≠ a → zK τ b = zK σ b ∧ zL τ b = zL σ b ∧ zI τ b = zI σ b ∧ zP τ b = zP σ b) (b : Nat) : va_up (cel g σ) a x b = cel g τ b := by
  unfold va_up
  by_cases hb : b = a
  · subst hb
    rw [if_pos rfl, ha]
  · rw [if_neg hb]
    obtain ⟨q0, q1, q2, q3⟩ := ho b hb
    exact (cel_congr q0 q1 q2 q3).symm
theorem o_stI {σ : PS} {a k : Nat} {v : Int32} (b : Nat) (hb : b ≠ a) : zK (stI σ a k v) b = zK σ b ∧ zL (stI σ a k v) b = zL σ b ∧ zI (stI σ a k v) b = zI σ b ∧ zP (stI σ a k v) b = zP σ b := ⟨rfl, rfl, by funext j; simp [zI, stI, hb], rfl⟩
theorem o_stP {σ : PS} {a k : Nat} {v : Option Nat} (b : Nat) (hb : b ≠ a) : zK (stP σ a k v) b = zK σ b ∧ zL (stP σ a k v) b = zL σ b ∧ zI (stP σ a k v) b = zI σ b ∧ zP (stP σ a k v) b = zP σ b := ⟨rfl, rfl, rfl, by funext j; simp [zP, stP, hb]⟩
theorem o_cpI {σ : PS} {a sp x dp n : Nat} (b : Nat) (hb : b ≠ x) : zK (cpI σ a sp x dp n) b = zK σ b ∧ zL (cpI σ a sp x dp n) b = zL σ b ∧ zI (cpI σ a sp x dp n) b = zI σ b ∧ zP (cpI σ a sp x dp n) b = zP σ b := ⟨rfl, rfl, by funext j; simp [zI, cpI, hb], rfl⟩
theorem o_cpP {σ : PS} {a sp x dp n : Nat} (b : Nat) (hb : b ≠ x) : zK (cpP σ a sp x dp n) b = zK σ b ∧ zL (cpP σ a sp x dp n) b = zL σ b ∧ zI (cpP σ a sp x dp n) b = zI σ b ∧ zP (cpP σ a sp x dp n) b = zP σ b := ⟨rfl, rfl, rfl, by funext j; simp [zP, cpP, hb]⟩
theorem o_alO {σ : PS} {κ N : Nat} (b : Nat) (hb : b ≠ zN σ) : zK (alO σ κ N) b = zK σ b ∧ zL (alO σ κ N) b = zL σ b ∧ zI (alO σ κ N) b = zI σ b ∧ zP (alO σ κ N) b = zP σ b := ⟨by simp [zK, alO, hb], rfl, by funext j; simp [zI, alO, hb], by funext j; simp [zP, alO, hb]⟩
theorem o_alA {σ : PS} {κ N : Nat} (b : Nat) (hb : b ≠ zN σ) : zK (alA σ κ N) b = zK σ b ∧ zL (alA σ κ N) b = zL σ b ∧ zI (alA σ κ N) b = zI σ b ∧ zP (alA σ κ N) b = zP σ b := ⟨by simp [zK, alA, hb], by simp [zL, alA, hb], by funext j; simp [zI, alA, hb], by funext j; simp [zP, alA, hb]⟩
/-! THE WORLD AROUND: what the tables and the cells that nobody writes say -/
def EnvT (D : va_G) (g : Nat → Nat) (U : State) : Prop :=
  va_K D vwCl (tyG g) U ∧ (∀ q ∈ nF, va_Nw (.fieldLinkNest q.1 q.2.1 q.2.2.1 q.2.2.2.1 q.2.2.2.2 RX6) U) ∧ (∀ q ∈ nM, va_Nw (.methodLinkNest q.1 q.2.1 q.2.2 RX6) U) ∧ (∀ c, c ≤ 8 → va_Nw (.castable (clN c) "java/lang/Object") U) ∧
  va_AO "java/lang/Object" U ∧ va_AO RX5 U ∧ va_Mi "[Ljava/lang/Object;" (g 7) U ∧ va_Dc U ∧ va_Nw (.fieldLinkNest RX1 106 RX6 "NEEDED" "[I" RX6) U ∧
  (∀ q ∈ sT, vk_R q.1 q.2.1 q.2.2.1 (g (100 + q.2.2.2)) U) ∧ (∀ q ∈ tT, ∃ a, vk_R RX6 q.1 q.2 a U) ∧ (∀ q ∈ dD, va_Nw (.declares q) U) ∧ (∀ q ∈ dC, va_Nw (.castable q.1 q.2) U)
def EnvH (g : Nat → Nat) (A : Nat → Prop) (U : State) (H : Heap) : Prop :=
  va_Z RX6 "NEEDED" "[I" (.ref (g 0)) A U H ∧ va_T .int (g 0) 20 (fun j => .int (need j)) A U H ∧ va_Z RJx4a65c "DEFAULTCAPACITY_EMPTY_ELEMENTDATA" "[Ljava/lang/Object;" (.ref (g 1)) A U H ∧ va_T (.object "java/lang/Object") (g 1) 0 (fun _ => .null) A U H ∧
  va_Z RJ0 "COMPACT_STRINGS" "Z" (.int 1) A U H ∧ va_Z RJ3 "SIOOBE_FORMATTER" "Ljava/util/function/BiFunction;" (va_rf (if g 6 = 0 then none else some (g 6 - 1))) A U H ∧
  vk_S 10 sLs sBs (fun j => g (100 + j)) (fun j => g (200 + j)) A U H ∧ vx_Zq Bundle.tN "UNASSIGNED_STACK" Bundle.steD A U H ∧ vx_Zq Bundle.tN "SUPPRESSED_SENTINEL" Bundle.listD A U H
theorem EnvT.warm {D : va_G} {g : Nat → Nat} {s U : State} (hW : s.WarmedH U.vm) (h : EnvT D g s) : EnvT D g U := by
  obtain ⟨h1, h2, h3, h4, h5, h6, h7, h8, h9, h10, h11, h12, h13⟩ := h
  refine ⟨va_K.moved hW.alike h1, fun q hq => (h2 q hq).warmF hW, fun q hq => (h3 q hq).warmM hW, fun c hc => (h4 c hc).warmC hW, va_AO.moved hW.alike h5, va_AO.moved hW.alike h6, va_Mi.moved hW.alike h7, va_Dc.moved hW.alike h8, h9.warmF hW, fun q hq => (h10 q hq).warm hW, fun q hq => ?_, fun q hq => (h12 q hq).warmD hW, fun q hq => (h13 q hq).warmC hW⟩
  obtain ⟨a, ha⟩ := h11 q hq
  exact ⟨a, ha.warm hW⟩
theorem EnvH.moved {g : Nat → Nat} {A : Nat → Prop} {s U : State} {H : Heap} (hW : s.vm.Alike U.vm) (h : EnvH g A s H) : EnvH g A U H := by
  obtain ⟨h1, h2, h3, h4, h5, h6, h7, h8, h9⟩ := h
  exact ⟨h1.moved hW, h2.moved hW, h3.moved hW, h4.moved hW, h5.moved hW, h6.moved hW, h7.moved hW, h8.moved hW, h9.moved hW⟩
theorem EnvH.kept {g : Nat → Nat} {A : Nat → Prop} {U : State} {H H1 : Heap} (h : EnvH g A U H) (hq : ∀ a : Nat, a < H.size → ¬ A a → H1[a]? = H[a]?) : EnvH g A U H1 := by
  obtain ⟨h1, h2, h3, h4, h5, h6, h7, h8, h9⟩ := h
  exact ⟨h1.kept hq, h2.kept hq, h3.kept hq, h4.kept hq, h5.kept hq, h6.kept hq, h7.kept hq, h8.kept hq, h9.kept hq⟩
theorem EnvH.narrow {g : Nat → Nat} {A B : Nat → Prop} {U : State} {H : Heap} (h : EnvH g A U H) (hAB : ∀ q, B q → A q) : EnvH g B U H := by
  obtain ⟨h1, h2, h3, h4, h5, h6, h7, h8, h9⟩ := h
  exact ⟨h1.narrow hAB, h2.narrow hAB, h3.narrow hAB, h4.narrow hAB, h5.narrow hAB, h6.narrow hAB, h7.narrow hAB, h8.narrow hAB, h9.narrow hAB⟩
