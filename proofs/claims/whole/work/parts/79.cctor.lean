/-! the constructors of the listing and of the class -/
section CCtor
variable {g : Nat → Nat} {B U : Nat} {O : Nat → Prop} {c d : CS} {Q : Rs → CS → Prop} {ℓ ℓ' : LB} {x li : Nat}
theorem t5 (hL : LI c ℓ li) (hU : yU c + 15700 ≤ B) (h : ∀ d ℓ' rl me mf, LsI d ℓ' li rl me mf [] → RR d li me mf [] [] ([], [], [], [], false) → FS (fun a => a = li) ℓ ℓ' c d → yU d = yU c + 15608 → Q (Sum.inl none) d) : CW g B O 5 0 [some (.ref li)] [] c Q := by
  have lk := hL.1
  refine c5_0 ⟨by omega, fun b1 hb1 d2 e2 => ?_⟩
  have n1 : ∀ y, ¬ yK c y = 0 → ¬ y = b1 := fun y hy q => hy (by rw [q]; exact hb1)
  have l1 := n1 li (by omega)
  have k2 : ∀ y, yK d2 y = if y = b1 then 1 else yK c y := fun y => by rw [e2]; rfl
  have k2l : yK d2 li = 3 := by rw [k2, if_neg l1]; exact lk
  refine ⟨k2l, fun d4 e4 => ⟨by rw [e4]; exact k2l, fun d6 e6 => ⟨by rw [e6, e4]; exact k2l, fun d8 e8 => ?_⟩⟩⟩
  have k8 : ∀ y, yK d8 y = if y = b1 then 1 else yK c y := fun y => by rw [e8, e6, e4]; exact k2 y
  have U8 : yU d8 = yU c + 15400 := by rw [e8, e6, e4, e2]; rfl
  refine ⟨by omega, fun b10 hb10 d11 e11 => ?_⟩
  have n10 : ∀ y, ¬ yK d8 y = 0 → ¬ y = b10 := fun y hy q => hy (by rw [q]; exact hb10)
  have o10 : ∀ y, ¬ yK c y = 0 → ¬ y = b10 := fun y hy => n10 y (by rw [k8, if_neg (n1 y hy)]; exact hy)
  have l10 := o10 li (by omega)
  have b110 : ¬ b1 = b10 := n10 b1 (by rw [k8, if_pos rfl]; decide)
  have k11 : ∀ y, yK d11 y = if y = b10 then 101 else yK d8 y := fun y => by rw [e11]; rfl
  have k11l : yK d11 li = 3 := by rw [k11, if_neg l10, k8, if_neg l1]; exact lk
  refine ⟨k11l, fun d13 e13 => ?_⟩
  have k13 : ∀ y, yK d13 y = if y = b10 then 101 else yK d8 y := fun y => by rw [e13]; exact k11 y
  have U13 : yU d13 = yU c + 15504 := by rw [e13, e11]; show yU d8 + 104 = _; omega
  refine ⟨by omega, fun b15 hb15 d16 e16 => ?_⟩
  have n15 : ∀ y, ¬ yK d13 y = 0 → ¬ y = b15 := fun y hy q => hy (by rw [q]; exact hb15)
  have o15 : ∀ y, ¬ yK c y = 0 → ¬ y = b15 := fun y hy => n15 y (by rw [k13, if_neg (o10 y hy), k8, if_neg (n1 y hy)]; exact hy)
  have l15 := o15 li (by omega)
  have b1015 : ¬ b10 = b15 := n15 b10 (by rw [k13, if_pos rfl]; decide)
  have b115 : ¬ b1 = b15 := n15 b1 (by rw [k13, if_neg b110, k8, if_pos rfl]; decide)
  have k16 : ∀ y, yK d16 y = if y = b15 then 101 else yK d13 y := fun y => by rw [e16]; rfl
  have k16l : yK d16 li = 3 := by rw [k16, if_neg l15, k13, if_neg l10, k8, if_neg l1]; exact lk
  refine ⟨k16l, fun d18 e18 => ⟨by rw [e18]; exact k16l, fun d20 e20 => ?_⟩⟩
  have K : ∀ y, yK d20 y = if y = b15 then 101 else if y = b10 then 101 else if y = b1 then 1 else yK c y := fun y => by rw [e20, e18]; show yK d16 y = _; rw [k16, k13, k8]
  have keepN : ∀ y, ¬ y = b1 → ¬ y = b10 → ¬ y = b15 → ¬ y = li → Kp c d20 y := fun y h1 h2 h3 h4 => by
    rw [e20, e18, e16, e13, e11, e8, e6, e4, e2]
    exact ((((((((Kp_wN h1).trans (Kp_wP h4)).trans (Kp_wI h4)).trans (Kp_wI h4)).trans (Kp_wN h2)).trans (Kp_wP h4)).trans (Kp_wN h3)).trans (Kp_wP h4)).trans (Kp_wI h4)
  have P20 : ∀ i : Int, yP d20 li i = if i = 4 then some b15 else if i = 3 then some b10 else if i = 0 then some b1 else yP d2 li i := fun i => by
    rw [e20]
    show yP d18 li i = _
    rw [e18, yP_wP]
    by_cases q4 : i = 4
    · rw [if_pos ⟨rfl, q4⟩, if_pos q4]
    · rw [if_neg (fun q => q4 q.2), if_neg q4, e16, (Kp_wN (κ := 101) (cost := 104) (n := 96) l15).2.2.1, e13, yP_wP]
      by_cases q3 : i = 3
      · rw [if_pos ⟨rfl, q3⟩, if_pos q3]
      · rw [if_neg (fun q => q3 q.2), if_neg q3, e11, (Kp_wN (κ := 101) (cost := 104) (n := 96) l10).2.2.1, e8, e6, e4]
        show yP (wP d2 li 0 (some b1)) li i = _
        rw [yP_wP]
        by_cases q0 : i = 0
        · rw [if_pos ⟨rfl, q0⟩, if_pos q0]
        · rw [if_neg (fun q => q0 q.2), if_neg q0]
  have I20 : ∀ i : Int, (i = 1 ∨ i = 2 ∨ i = 5) → yI d20 li i = 0 := fun i hi => by
    rw [e20, yI_wI]
    by_cases q5 : i = 5
    · rw [if_pos ⟨rfl, q5⟩]
    · rw [if_neg (fun q => q5 q.2), e18]
      show yI d16 li i = 0
      rw [e16, (Kp_wN (κ := 101) (cost := 104) (n := 96) l15).2.1, e13]
      show yI d11 li i = 0
      rw [e11, (Kp_wN (κ := 101) (cost := 104) (n := 96) l10).2.1, e8, yI_wI]
      by_cases q2 : i = 2
      · rw [if_pos ⟨rfl, q2⟩]
      · rw [if_neg (fun q => q2 q.2), e6, yI_wI, if_pos ⟨rfl, by omega⟩]
  have nl1 : ¬ b1 = li := fun q => l1 q.symm
  have nl10 : ¬ b10 = li := fun q => l10 q.symm
  have nl15 : ¬ b15 = li := fun q => l15 q.symm
  have Ey : yE d20 b1 = [] := by
    rw [e20, e18]
    show yE d16 b1 = []
    rw [e16, (Kp_wN (κ := 101) (cost := 104) (n := 96) b115).2.2.2.2, e13]
    show yE d11 b1 = []
    rw [e11, (Kp_wN (κ := 101) (cost := 104) (n := 96) b110).2.2.2.2, e8, e6, e4]
    show yE d2 b1 = []
    rw [e2, yE_wN, if_pos rfl]
  have I10 : yI d20 b10 (-1) = 96 := by
    rw [e20, (Kp_wI nl10).2.1, e18]
    show yI d16 b10 (-1) = 96
    rw [e16, (Kp_wN (κ := 101) (cost := 104) (n := 96) b1015).2.1, e13]
    show yI d11 b10 (-1) = 96
    rw [e11, yI_wN, if_pos rfl, if_pos rfl]
  have I15 : yI d20 b15 (-1) = 96 := by
    rw [e20, (Kp_wI nl15).2.1, e18]
    show yI d16 b15 (-1) = 96
    rw [e16, yI_wN, if_pos rfl, if_pos rfl]
  have L1 : upL (upL (upL ℓ b1 (li, 1)) b10 (li, 2)) b15 (li, 3) b1 = (li, 1) := by rw [upL_ne b115, upL_ne b110, upL_eq]
  have L10 : upL (upL (upL ℓ b1 (li, 1)) b10 (li, 2)) b15 (li, 3) b10 = (li, 2) := by rw [upL_ne b1015, upL_eq]
  have L15 : upL (upL (upL ℓ b1 (li, 1)) b10 (li, 2)) b15 (li, 3) b15 = (li, 3) := upL_eq
  have Lo : ∀ y, ¬ yK c y = 0 → upL (upL (upL ℓ b1 (li, 1)) b10 (li, 2)) b15 (li, 3) y = ℓ y := fun y hy => by rw [upL_ne (o15 y hy), upL_ne (o10 y hy), upL_ne (n1 y hy)]
  have Ko : ∀ y, ¬ yK c y = 0 → yK d20 y = yK c y := fun y hy => by rw [K, if_neg (o15 y hy), if_neg (o10 y hy), if_neg (n1 y hy)]
  refine h d20 (upL (upL (upL ℓ b1 (li, 1)) b10 (li, 2)) b15 (li, 3)) b1 b10 b15 ⟨⟨hL.fs (fun y hy => ⟨Ko y hy, Lo y hy⟩), ?_, ?_, ?_⟩, ⟨?_, L1, Ey⟩, ⟨?_, L10, I10⟩, ⟨?_, L15, I15⟩, Nat.zero_le _, fun i j hi => absurd hi (Nat.not_lt_zero _), fun i hi => absurd hi (Nat.not_lt_zero _)⟩ ⟨I20 1 (by omega), Nat.le_refl _, fun i hi => absurd hi (Nat.not_lt_zero _), ⟨I20 5 (by omega), fun i hi => absurd hi (Nat.not_lt_zero _)⟩, I20 2 (by omega)⟩ ⟨fun y hy => ⟨Ko y hy, Lo y hy⟩, fun y hy hn => keepN y (n1 y hy) (o10 y hy) (o15 y hy) hn⟩ ?_
  · rw [P20, if_neg (by decide), if_neg (by decide), if_pos rfl]
  · rw [P20, if_neg (by decide), if_pos rfl]
  · rw [P20, if_pos rfl]
  · rw [K, if_neg b115, if_neg b110, if_pos rfl]
  · rw [K, if_neg b1015, if_pos rfl]
  · rw [K, if_pos rfl]
  · rw [e20, e18, e16]
    show yU d13 + 104 = _
    omega
/-- a new object in a place of x -/
theorem st_new {b κ cost j : Nat} {n : Int} {z : Nat × Nat} (hb : yK c b = 0) (hx : ¬ yK c x = 0) (hd : d = wP (wN c b κ n cost) x j (some b)) : FS (fun a => a = x) ℓ (upL ℓ b z) c d ∧ (yK d b = κ ∧ upL ℓ b z b = z ∧ yE d b = [] ∧ yT d b = [] ∧ yP d x j = some b) ∧ (∀ i : Int, ¬ i = j → yP d x i = yP c x i) ∧ yI d x = yI c x ∧ yU d = yU c + cost ∧ yK d x = yK c x := by
  have nb : ∀ y, ¬ yK c y = 0 → ¬ y = b := fun y hy q => hy (by rw [q]; exact hb)
  have xb := nb x hx
  have kK : ∀ y, yK d y = if y = b then κ else yK c y := fun y => by rw [hd]; rfl
  refine ⟨⟨fun y hy => ⟨by rw [kK, if_neg (nb y hy)], upL_ne (nb y hy)⟩, fun y hy hn => by rw [hd]; exact (Kp_wN (nb y hy)).trans (Kp_wP hn)⟩, ⟨by rw [kK, if_pos rfl], upL_eq, ?_, ?_, ?_⟩, fun i hi => ?_, ?_, by rw [hd]; rfl, by rw [kK, if_neg xb]⟩
  · rw [hd]
    show yE (wN c b κ n cost) b = []
    rw [yE_wN, if_pos rfl]
  · rw [hd]
    show yT (wN c b κ n cost) b = []
    rw [yT_wN, if_pos rfl]
  · rw [hd, yP_wP, if_pos ⟨rfl, rfl⟩]
  · rw [hd, yP_wP, if_neg (fun q => hi q.2), (Kp_wN xb).2.2.1]
  · rw [hd]
    exact (Kp_wN (κ := κ) (cost := cost) (n := n) xb).2.1
theorem k66 (hK : yK c x = 8) (hU : yU c ≤ U + 100) (hB : U + 2000000 ≤ B) (hQ : ∀ d A, XE U d x A st0 → Q (Sum.inl none) d) : CW g B O 66 0 [some (.ref x)] [] c Q := by
  refine c66_0 ⟨by omega, fun b1 hb1 d2 e2 => ?_⟩
  have x1 : ¬ x = b1 := fun q => by rw [← q] at hb1; omega
  refine ⟨by rw [e2, yK_wN, if_neg x1]; exact hK, fun d4 e4 => ?_⟩
  obtain ⟨F4, ⟨k4, L4, E4, -, p4⟩, P4, I4, U4, X4⟩ := st_new (ℓ := fun a => (a, 0)) (z := (x, 1)) (x := x) (j := 0) hb1 (by omega) (show d4 = wP (wN c b1 1 0 15400) x (0 : Nat) (some b1) by rw [e4, e2]; rfl)
  rw [hK] at X4
  refine ⟨by omega, fun b6 hb6 d7 e7 => ?_⟩
  have x6 : ¬ x = b6 := fun q => by rw [← q] at hb6; omega
  refine ⟨by rw [e7, yK_wN, if_neg x6]; exact X4, fun d9 e9 => ?_⟩
  obtain ⟨F9, ⟨k9, L9, E9, -, p9⟩, P9, I9, U9, X9⟩ := st_new (c := d4) (ℓ := upL (fun a => (a, 0)) b1 (x, 1)) (z := (x, 2)) (x := x) (j := 1) hb6 (by omega) (show d9 = wP (wN d4 b6 1 0 15400) x (1 : Nat) (some b6) by rw [e9, e7]; rfl)
  rw [X4] at X9
  generalize hl9 : upL (upL (fun a => (a, 0)) b1 (x, 1)) b6 (x, 2) = ℓ9 at F9 L9
  have hx9 : ℓ9 x = (x, 0) := by rw [← hl9, upL_ne x6, upL_ne x1]
  refine ⟨X9, fun d11 e11 => ⟨by rw [e11]; exact X9, fun d13 e13 => ?_⟩⟩
  have K13 : yK d13 = yK d9 := by rw [e13, e11]; rfl
  have P13 : yP d13 = yP d9 := by rw [e13, e11]; rfl
  have U13 : yU d13 = yU d9 := by rw [e13, e11]; rfl
  have I13 : yI d13 x 2 = 0 ∧ yI d13 x 3 = 0 := by
    constructor
    · rw [e13, yI_wI, if_neg (fun q => by have := q.2; omega), e11, yI_wI, if_pos ⟨rfl, rfl⟩]
    · rw [e13, yI_wI, if_pos ⟨rfl, rfl⟩]
  have F13 : FS (fun a => a = x) ℓ9 ℓ9 d9 d13 := ⟨fun y _ => ⟨by rw [K13], rfl⟩, fun y _ hy => by rw [e13, e11]; exact (Kp_wI hy).trans (Kp_wI hy)⟩
  refine ⟨by omega, fun b15 hb15 d16 e16 => ?_⟩
  have n15 : ∀ y, ¬ yK d13 y = 0 → ¬ y = b15 := fun y hy q => hy (by rw [q]; exact hb15)
  have x13 : yK d13 x = 8 := by rw [K13]; exact X9
  have x15 := n15 x (by omega)
  have K16 : ∀ y, yK d16 y = if y = b15 then 3 else yK d13 y := fun y => by rw [e16]; rfl
  have hLI : LI d16 (upL ℓ9 b15 (x, 3)) b15 := by
    refine ⟨by rw [K16, if_pos rfl], ?_, ?_⟩
    · rw [upL_eq]; show yK d16 x = 8; rw [K16, if_neg x15]; exact x13
    · rw [upL_eq]; show upL ℓ9 b15 (x, 3) x = (x, 0); rw [upL_ne x15]; exact hx9
  have U16 : yU d16 = yU d13 + 14 := by rw [e16]; rfl
  refine t5 hLI (by omega) (fun d17 ℓ17 rl me mf Ls17 R17 F17 U17 => ?_)
  have F17' : FS (fun a => a = x) ℓ9 ℓ17 d13 d17 := ⟨fun y hy => by
    have hy16 : ¬ yK d16 y = 0 := by rw [K16, if_neg (n15 y hy)]; exact hy
    obtain ⟨q1, q2⟩ := F17.1 y hy16
    exact ⟨by rw [q1, K16, if_neg (n15 y hy)], by rw [q2, upL_ne (n15 y hy)]⟩, fun y hy _ => (show Kp d13 d16 y by rw [e16]; exact Kp_wN (n15 y hy)).trans (F17.2 y (by rw [K16, if_neg (n15 y hy)]; exact hy) (n15 y hy))⟩
  have kx17 : Kp d13 d17 x := (show Kp d13 d16 x by rw [e16]; exact Kp_wN x15).trans (F17.2 x (by rw [K16, if_neg x15, x13]; decide) x15)
  have X17 : yK d17 x = 8 := by rw [kx17.1]; exact x13
  have l15 : ℓ17 b15 = (x, 3) := by rw [(F17.1 b15 (by rw [K16, if_pos rfl]; decide)).2, upL_eq]
  have k15 := Ls17.1.1.1
  refine c66_44 ⟨X17, fun d18 e18 => ?_⟩
  have K18 : yK d18 = yK d17 := by rw [e18]; rfl
  have F18 : FS (fun a => a = x) ℓ17 ℓ17 d17 d18 := ⟨fun y _ => ⟨by rw [K18], rfl⟩, fun y _ hy => by rw [e18]; exact Kp_wP hy⟩
  have U18 : yU d18 = yU d17 := by rw [e18]; rfl
  refine ⟨by omega, fun b3 hb3 d19 e19 => ?_⟩
  have x3 : ¬ x = b3 := fun q => by rw [← q, K18] at hb3; omega
  refine ⟨by rw [e19, yK_wN, if_neg x3, K18]; exact X17, fun d20 e20 => ?_⟩
  obtain ⟨F20, ⟨k20, L20, -, T20, p20⟩, P20, I20, U20, X20⟩ := st_new (c := d18) (ℓ := ℓ17) (z := (x, 4)) (x := x) (j := 5) hb3 (by rw [K18]; omega) (show d20 = wP (wN d18 b3 7 0 4100) x (5 : Nat) (some b3) by rw [e20, e19]; rfl)
  rw [K18, X17] at X20
  generalize hl20 : upL ℓ17 b3 (x, 4) = ℓ20 at F20 L20
  refine ⟨by omega, fun b8 hb8 d21 e21 => ?_⟩
  have n8 : ∀ y, ¬ yK d20 y = 0 → ¬ y = b8 := fun y hy q => hy (by rw [q]; exact hb8)
  have x8 := n8 x (by omega)
  have K21 : ∀ y, yK d21 y = if y = b8 then 5 else yK d20 y := fun y => by rw [e21]; rfl
  have U21 : yU d21 = yU d20 + 15 := by rw [e21]; rfl
  refine t18 (ℓ := upL ℓ20 b8 (x, 5)) (by rw [K21, if_pos rfl]) (by omega) (fun d22 ℓ22 P22 F22 U22 => ?_)
  have F22' : FS (fun a => a = x) ℓ20 ℓ22 d20 d22 := ⟨fun y hy => by
    have hy21 : ¬ yK d21 y = 0 := by rw [K21, if_neg (n8 y hy)]; exact hy
    obtain ⟨q1, q2⟩ := F22.1 y hy21
    exact ⟨by rw [q1, K21, if_neg (n8 y hy)], by rw [q2, upL_ne (n8 y hy)]⟩, fun y hy _ => (show Kp d20 d21 y by rw [e21]; exact Kp_wN (n8 y hy)).trans (F22.2 y (by rw [K21, if_neg (n8 y hy)]; exact hy) (n8 y hy))⟩
  have kx22 : Kp d20 d22 x := (show Kp d20 d21 x by rw [e21]; exact Kp_wN x8).trans (F22.2 x (by rw [K21, if_neg x8, X20]; decide) x8)
  have X22 : yK d22 x = 8 := by rw [kx22.1]; exact X20
  have l8 : ℓ22 b8 = (x, 5) := by rw [(F22.1 b8 (by rw [K21, if_pos rfl]; decide)).2, upL_eq]
  refine c66_66 ⟨X22, fun d23 e23 => ?_⟩
  have K23 : yK d23 = yK d22 := by rw [e23]; rfl
  have F23 : FS (fun a => a = x) ℓ22 ℓ22 d22 d23 := ⟨fun y _ => ⟨by rw [K23], rfl⟩, fun y _ hy => by rw [e23]; exact Kp_wP hy⟩
  have U23 : yU d23 = yU d22 := by rw [e23]; rfl
  refine ⟨by omega, fun b9 hb9 d24 e24 => ?_⟩
  have x9 : ¬ x = b9 := fun q => by rw [← q, K23] at hb9; omega
  refine ⟨by rw [e24, yK_wN, if_neg x9, K23]; exact X22, fun d25 e25 => ?_⟩
  obtain ⟨F25, ⟨k25, L25, -, T25, p25⟩, P25, I25, U25, X25⟩ := st_new (c := d23) (ℓ := ℓ22) (z := (x, 6)) (x := x) (j := 7) hb9 (by rw [K23]; omega) (show d25 = wP (wN d23 b9 7 0 4100) x (7 : Nat) (some b9) by rw [e25, e24]; rfl)
  rw [K23, X22] at X25
  generalize hl25 : upL ℓ22 b9 (x, 6) = ℓ25 at F25 L25
  -- frames to the end
  have G22 := F23.trans F25
  have G20 := F22'.trans G22
  have G17 := F18.trans (F20.trans G20)
  have G9 := F13.trans (F17'.trans G17)
  have G4 := F9.trans G9
  have nx : ∀ {y κ : Nat} {e : CS}, yK e y = κ → yK e x = 8 → ¬ κ = 8 → ¬ y = x := fun h1 h2 h3 => kne h1 h2 h3
  have kb1 := G4.2 b1 (by omega) (nx k4 X4 (by decide))
  have kb6 := G9.2 b6 (by omega) (nx k9 X9 (by decide))
  have kb3 := G20.2 b3 (by omega) (nx k20 X20 (by decide))
  have lx17 : ℓ17 x = (x, 0) := by rw [(F17'.1 x (by omega)).2]; exact hx9
  have lx : ℓ25 x = (x, 0) := by rw [(G17.1 x (by omega)).2]; exact lx17
  have kS : ∀ a, ¬ yK d17 a = 0 → (SL ℓ17 b15 a ∨ yK d17 (ℓ17 (ℓ17 a).1).1 = 6) → Kp d17 d25 a := fun a ha q => G17.2 a ha (fun z => by
    rcases q with q | q
    · rcases q with q | q
      · exact kne X17 k15 (by decide) (z.symm.trans q)
      · rw [z, lx17] at q
        exact kne X17 k15 (by decide) q
    · rw [z, lx17] at q
      have q : yK d17 (ℓ17 x).1 = 6 := q
      rw [lx17] at q
      have q : yK d17 x = 6 := q
      omega)
  have hl17 : ∀ a, ¬ yK d17 a = 0 → ℓ25 a = ℓ17 a ∧ yK d25 a = yK d17 a := fun a ha => ⟨(G17.1 a ha).2, (G17.1 a ha).1⟩
  have k8' := P22.1
  have ps : PsI d25 ℓ25 b8 := P22.keep (fun a ha => ⟨(G22.1 a ha).2, (G22.1 a ha).1⟩) (fun a ha q => G22.2 a ha (fun z => by
    have lx22 : ℓ22 x = (x, 0) := by rw [← (G22.1 x (by omega)).2]; exact lx
    rcases q with q | q
    · exact kne X22 k8' (by decide) (z.symm.trans q)
    · rw [z, lx22] at q
      exact kne X22 k8' (by decide) q))
  -- the places of x
  have q7 : yP d25 x 7 = some b9 := p25
  have q6 : yP d25 x 6 = some b8 := by rw [P25 6 (by decide), e23, yP_wP, if_pos ⟨rfl, rfl⟩]
  have b23 : ∀ i : Int, ¬ i = 7 → ¬ i = 6 → yP d25 x i = yP d20 x i := fun i h7 h6 => by rw [P25 i h7, e23, yP_wP, if_neg (fun q => h6 q.2), kx22.2.2.1]
  have q5 : yP d25 x 5 = some b3 := by rw [b23 5 (by decide) (by decide)]; exact p20
  have b18 : ∀ i : Int, ¬ i = 7 → ¬ i = 6 → ¬ i = 5 → ¬ i = 4 → yP d25 x i = yP d9 x i := fun i h7 h6 h5 h4 => by rw [b23 i h7 h6, P20 i h5, e18, yP_wP, if_neg (fun q => h4 q.2), kx17.2.2.1, P13]
  have q4 : yP d25 x 4 = some b15 := by rw [b23 4 (by decide) (by decide), P20 4 (by decide), e18, yP_wP, if_pos ⟨rfl, rfl⟩]
  have q1 : yP d25 x 1 = some b6 := by rw [b18 1 (by decide) (by decide) (by decide) (by decide)]; exact p9
  have q0 : yP d25 x 0 = some b1 := by rw [b18 0 (by decide) (by decide) (by decide) (by decide), P9 0 (by decide)]; exact p4
  have iX : yI d25 x = yI d13 x := by
    rw [I25, e23]
    show yI d22 x = _
    rw [kx22.2.1, I20, e18]
    show yI d17 x = _
    rw [kx17.2.1]
  have k3n : ¬ yK d20 b3 = 0 := by omega
  refine hQ d25 (fun i => if i = 0 then b1 else if i = 1 then b6 else if i = 2 then b15 else if i = 3 then rl else if i = 4 then me else if i = 5 then mf else if i = 6 then b3 else if i = 7 then b8 else b9) ⟨ℓ25, [], [], SK_st0, ⟨rfl, fun n hn => absurd hn (Nat.not_lt_zero _)⟩, ⟨⟨⟨X25, lx⟩, ⟨q0, q1, q4, q5, q6, q7⟩, ⟨?_, ?_⟩, ⟨?_, ?_⟩, ?_, ⟨?_, ?_⟩, ⟨ps, ?_⟩, ⟨k25, L25⟩⟩, Ls17.keep hl17 kS, R17.keep Ls17 kS, ?_, ⟨[], ?_, rfl, rfl, fun n hn => (by cases hn)⟩, ⟨?_, ?_⟩, ?_⟩, ?_⟩
  · show yK d25 b1 = 1; rw [kb1.1]; exact k4
  · show ℓ25 b1 = (x, 1); rw [(G4.1 b1 (by omega)).2]; exact L4
  · show yK d25 b6 = 1; rw [kb6.1]; exact k9
  · show ℓ25 b6 = (x, 2); rw [(G9.1 b6 (by omega)).2]; exact L9
  · show ℓ25 b15 = (x, 3); rw [(hl17 b15 (by omega)).1]; exact l15
  · show yK d25 b3 = 7; rw [kb3.1]; exact k20
  · show ℓ25 b3 = (x, 4); rw [(G20.1 b3 k3n).2]; exact L20
  · show ℓ25 b8 = (x, 5); rw [(G22.1 b8 (by omega)).2]; exact l8
  · show yE d25 b1 = []; rw [kb1.2.2.2.2]; exact E4
  · show yE d25 b6 = []; rw [kb6.2.2.2.2]; exact E9
  · rw [iX]; exact I13.1
  · rw [iX]; exact I13.2
  · show yT d25 b3 = []; rw [kb3.2.2.2.1]; exact T20
  · show yU d25 ≤ U + 74400 + 37000 * 0 + 40200 * 0
    omega
end CCtor
