/-! a new entry -/
def E0 (c : CS) (ℓ : LB) (e ky fs : Nat) (n kd : Int) (f : Nat) : Prop := (yK c e = 2 ∧ ℓ e = (e, 0) ∧ yI c e 0 = n ∧ yI c e 1 = kd ∧ yP c e 2 = some ky ∧ yP c e 3 = some fs ∧ yP c e 4 = none) ∧ (yK c ky = 7 ∧ ℓ ky = (e, 1) ∧ yT c ky = []) ∧ (yK c fs = 103 ∧ ℓ fs = (e, 2) ∧ yI c fs (-1) = 8) ∧ ∀ i : Nat, i < f → ∃ ft, yP c fs i = some ft ∧ yK c ft = 7 ∧ ℓ ft = (e, 10 + i) ∧ yT c ft = []
theorem E0.s {c d : CS} {ℓ : LB} {e ky fs f b : Nat} {n kd : Int} (h : E0 c ℓ e ky fs n kd f) (hb : yK c b = 0) (hd : d = wP (wN c b 7 0 4100) fs f (some b)) : E0 d (upL ℓ b (e, 10 + f)) e ky fs n kd (f + 1) ∧ ∀ x, ¬ yK c x = 0 → yK d x = yK c x ∧ upL ℓ b (e, 10 + f) x = ℓ x ∧ (¬ x = fs → Kp c d x) := by
  obtain ⟨⟨a1, a2, a3, a4, a5, a6, a7⟩, ⟨b1, b2, b3⟩, ⟨c1, c2, c3⟩, h4⟩ := h
  have nb : ∀ x, ¬ yK c x = 0 → ¬ x = b := fun x hx q => hx (by rw [q]; exact hb)
  have kp : ∀ x, ¬ x = b → ¬ x = fs → Kp c d x := fun x h1 h2 => by rw [hd]; exact (Kp_wN h1).trans (Kp_wP h2)
  have kK : ∀ x, yK d x = if x = b then 7 else yK c x := fun x => by rw [hd]; rfl
  have fb := nb fs (by omega)
  have pP : ∀ i : Int, yP d fs i = if i = (f : Int) then some b else yP c fs i := fun i => by
    rw [hd, yP_wP]
    by_cases q : i = (f : Int)
    · rw [if_pos ⟨rfl, q⟩, if_pos q]
    · rw [if_neg (fun s => q s.2), if_neg q, (Kp_wN fb).2.2.1]
  have ke := kp e (nb e (by omega)) (kne a1 c1 (by decide))
  have kk := kp ky (nb ky (by omega)) (kne b1 c1 (by decide))
  refine ⟨⟨⟨by rw [ke.1]; exact a1, by rw [upL_ne (nb e (by omega))]; exact a2, by rw [ke.2.1]; exact a3, by rw [ke.2.1]; exact a4, by rw [ke.2.2.1]; exact a5, by rw [ke.2.2.1]; exact a6, by rw [ke.2.2.1]; exact a7⟩, ⟨by rw [kk.1]; exact b1, by rw [upL_ne (nb ky (by omega))]; exact b2, by rw [kk.2.2.2.1]; exact b3⟩, ⟨by rw [kK, if_neg fb]; exact c1, by rw [upL_ne fb]; exact c2, ?_⟩, fun i hi => ?_⟩, fun x hx => ⟨by rw [kK, if_neg (nb x hx)], upL_ne (nb x hx), fun q => kp x (nb x hx) q⟩⟩
  · rw [hd]
    show yI (wN c b 7 0 4100) fs (-1) = 8
    rw [yI_wN, if_neg fb]; exact c3
  · by_cases q : i = f
    · exact ⟨b, by rw [pP, if_pos (by omega)], by rw [kK, if_pos rfl], by rw [upL_eq, q], by rw [hd]; show yT (wN c b 7 0 4100) b = []; rw [yT_wN, if_pos rfl]⟩
    · obtain ⟨ft, d1, d2, d3, d4⟩ := h4 i (by omega)
      have kt := kp ft (nb ft (by omega)) (kne d2 c1 (by decide))
      exact ⟨ft, by rw [pP, if_neg (by omega)]; exact d1, by rw [kt.1]; exact d2, by rw [upL_ne (nb ft (by omega))]; exact d3, by rw [kt.2.2.2.1]; exact d4⟩
section CNew3
variable {g : Nat → Nat} {B : Nat} {O : Nat → Prop} {c : CS} {Q : Rs → CS → Prop} {ℓ : LB}
theorem t0 {e : Nat} {n k : Int} (hK : yK c e = 2) (hl : ℓ e = (e, 0)) (hn : 0 ≤ n ∧ n ≤ 100) (hk : -2147483648 ≤ k ∧ k ≤ 2147483647) (hU : yU c + 37000 ≤ B)
    (h : ∀ d ℓ' ky fs, E0 d ℓ' e ky fs n (if k < 0 ∨ 3 < k then 4 else k) 8 → FS (fun a => a = e) ℓ ℓ' c d → yU d ≤ yU c + 36916 → Q (Sum.inl none) d) : CW g B O 0 0 [some (.ref e), some (.int (iI n)), some (.int (iI k)), none] [] c Q := by
  refine c0_0 ⟨by omega, fun b1 hb1 d2 e2 => ?_⟩
  have n1 : ∀ x, ¬ yK c x = 0 → ¬ x = b1 := fun x hx q => hx (by rw [q]; exact hb1)
  have eb1 := n1 e (by omega)
  have k2 : ∀ x, yK d2 x = if x = b1 then 7 else yK c x := fun x => by rw [e2]; rfl
  have k2e : yK d2 e = 2 := by rw [k2, if_neg eb1]; exact hK
  refine ⟨k2e, fun d4 e4 => ?_⟩
  have k4 : ∀ x, yK d4 x = if x = b1 then 7 else yK c x := fun x => by rw [e4]; exact k2 x
  have U4 : yU d4 = yU c + 4100 := by rw [e4, e2]; rfl
  refine ⟨by omega, fun b6 hb6 d7 e7 => ?_⟩
  have n6 : ∀ x, ¬ yK d4 x = 0 → ¬ x = b6 := fun x hx q => hx (by rw [q]; exact hb6)
  have o6 : ∀ x, ¬ yK c x = 0 → ¬ x = b6 := fun x hx => n6 x (by rw [k4, if_neg (n1 x hx)]; exact hx)
  have b16 : ¬ b1 = b6 := n6 b1 (by rw [k4, if_pos rfl]; decide)
  have eb6 := o6 e (by omega)
  have k7 : ∀ x, yK d7 x = if x = b6 then 103 else yK d4 x := fun x => by rw [e7]; rfl
  have k7e : yK d7 e = 2 := by rw [k7, if_neg eb6, k4, if_neg eb1]; exact hK
  refine ⟨k7e, fun d9 e9 => ⟨by rw [e9]; exact k7e, fun d11 e11 => ⟨by rw [e11, e9]; exact k7e, fun d13 e13 => ?_⟩⟩⟩
  have k13e : yK d13 e = 2 := by rw [e13, e11, e9]; exact k7e
  -- the fields
  have loop : ∀ (m f : Nat) (c' : CS) (ℓ1 : LB) {l1 l2 : Option Value}, 8 - f = m → f ≤ 8 → E0 c' ℓ1 e b1 b6 n (if k < 0 ∨ 3 < k then 4 else k) f → FS (fun a => a = e) ℓ ℓ1 c c' → yU c' = yU c + 4116 + 4100 * f → (∀ x, ¬ yK c x = 0 → ¬ x = b6) → CW g B O 0 54 [some (.ref e), l1, l2, some (.int (iI f))] [] c' Q := by
    intro m
    induction m with
    | zero =>
      intro f c' ℓ1 l1 l2 m1 m2 hE hF hU' _
      have : f = 8 := by omega
      subst this
      exact c0_54 ⟨fun _ => h c' ℓ1 b1 b6 hE hF (by omega), fun q => by omega⟩
    | succ m ih =>
      intro f c' ℓ1 l1 l2 m1 m2 hE hF hU' hb6'
      obtain ⟨⟨a1, -, -, -, -, a6, -⟩, -, ⟨c1, -, c3⟩, -⟩ := hE.1, trivial, hE.2.2.1, trivial
      refine c0_54 ⟨fun q => by omega, fun _ => ⟨a1, b6, a6, by omega, fun b3 hb3 d4' e4' => ?_⟩⟩
      have fb : ¬ b6 = b3 := fun q => by rw [← q] at hb3; omega
      have k4' : ∀ x, yK d4' x = if x = b3 then 7 else yK c' x := fun x => by rw [e4']; rfl
      refine ⟨by rw [k4', if_neg fb]; exact c1, by rw [k4', if_pos rfl], ?_, fun d9' e9' => ⟨by omega, ?_⟩⟩
      · rw [e4', yI_wN, if_neg fb, c3]; omega
      · obtain ⟨r1, r2⟩ := hE.s (d := d9') hb3 (by rw [e9', e4'])
        refine ih (f + 1) d9' _ (by omega) (by omega) r1 ⟨fun x hx => ?_, fun x hx hS => ?_⟩ ?_ hb6'
        · obtain ⟨q1, q2⟩ := hF.1 x hx
          obtain ⟨s1, s2, -⟩ := r2 x (by rw [q1]; exact hx)
          exact ⟨s1.trans q1, s2.trans q2⟩
        · obtain ⟨q1, q2⟩ := hF.1 x hx
          exact (hF.2 x hx hS).trans ((r2 x (by rw [q1]; exact hx)).2.2 (hb6' x hx))
        · rw [e9', e4']
          show yU c' + 4100 = _
          omega
  have c49 : ∀ kd : Int, kd = (if k < 0 ∨ 3 < k then 4 else k) → (0 ≤ kd ∧ kd ≤ 4) → ∀ {l1 l2 l3 : Option Value}, CW g B O 0 49 [some (.ref e), l1, l2, l3] [.int (iI kd), .ref e] d13 Q := fun kd hkd hkr l1 l2 l3 => by
    refine c0_49 ⟨k13e, fun d14 e14 => ?_⟩
    have kp : ∀ x, ¬ x = b1 → ¬ x = b6 → ¬ x = e → Kp c d14 x := fun x h1 h2 h3 => by
      rw [e14, e13, e11, e9, e7, e4, e2]
      exact (Kp_wN h1).trans ((Kp_wP h3).trans ((Kp_wN h2).trans ((Kp_wP h3).trans ((Kp_wP h3).trans ((Kp_wI h3).trans (Kp_wI h3))))))
    have kK : ∀ x, yK d14 x = if x = b6 then 103 else if x = b1 then 7 else yK c x := fun x => by
      rw [e14, e13, e11, e9]
      show yK d7 x = _
      rw [k7, k4]
    have PI : yP d14 = yP d11 := by rw [e14, e13]; rfl
    have IE : ∀ j : Int, yI d14 e j = if j = 1 then kd else if j = 0 then n else yI d11 e j := fun j => by
      rw [e14, yI_wI]
      by_cases q : j = 1
      · rw [if_pos ⟨rfl, q⟩, if_pos q]
      · rw [if_neg (fun s => q s.2), if_neg q, e13, yI_wI]
        by_cases q2 : j = 0
        · rw [if_pos ⟨rfl, q2⟩, if_pos q2]
        · rw [if_neg (fun s => q2 s.2), if_neg q2]
    have P2 : yP d11 e 2 = some b1 := by
      rw [e11, yP_wP, if_neg (fun q => by simp at q), e9, yP_wP, if_neg (fun q => by simp at q), e7, (Kp_wN (κ := 103) (cost := 16) (n := 8) eb6).2.2.1, e4, yP_wP, if_pos ⟨rfl, rfl⟩]
    have P3 : yP d11 e 3 = some b6 := by
      rw [e11, yP_wP, if_neg (fun q => by simp at q), e9, yP_wP, if_pos ⟨rfl, rfl⟩]
    have P4 : yP d11 e 4 = none := by rw [e11, yP_wP, if_pos ⟨rfl, rfl⟩]
    have kb1 : yT d14 b1 = [] := by
      rw [e14, e13, e11, e9]
      show yT d7 b1 = []
      rw [e7, yT_wN, if_neg b16, e4]
      show yT d2 b1 = []
      rw [e2, yT_wN, if_pos rfl]
    have kb6 : yI d14 b6 (-1) = 8 := by
      rw [e14, yI_wI, if_neg (fun q => eb6 q.1.symm), e13, yI_wI, if_neg (fun q => eb6 q.1.symm), e11, e9]
      show yI d7 b6 (-1) = 8
      rw [e7, yI_wN, if_pos rfl, if_pos rfl]
    refine loop 8 0 d14 (upL (upL ℓ b1 (e, 1)) b6 (e, 2)) rfl (by omega) ⟨⟨by rw [kK, if_neg eb6, if_neg eb1]; exact hK, by rw [upL_ne eb6, upL_ne eb1]; exact hl, by rw [IE, if_neg (by decide), if_pos rfl], by rw [IE, if_pos rfl]; exact hkd, by rw [PI]; exact P2, by rw [PI]; exact P3, by rw [PI]; exact P4⟩, ⟨by rw [kK, if_neg b16, if_pos rfl], by rw [upL_ne b16, upL_eq], kb1⟩, ⟨by rw [kK, if_pos rfl], upL_eq, kb6⟩, fun i hi => absurd hi (Nat.not_lt_zero _)⟩ ⟨fun x hx => ⟨by rw [kK, if_neg (o6 x hx), if_neg (n1 x hx)], by rw [upL_ne (o6 x hx), upL_ne (n1 x hx)]⟩, fun x hx hS => kp x (n1 x hx) (o6 x hx) hS⟩ ?_ o6
    rw [e14, e13, e11, e9, e7]
    show yU d4 + 16 = _
    omega
  refine ⟨fun q => c0_44 (c49 4 (by rw [if_pos (Or.inl q)]) (by omega)), fun q => ⟨fun q1 => ?_, fun q1 => c0_44 (c49 4 (by rw [if_pos (Or.inr (by omega))]) (by omega))⟩⟩
  refine c49 k ?_ (by omega)
  by_cases q2 : 3 < k
  · rw [if_pos (Or.inr q2)]; omega
  · rw [if_neg (by omega)]
end CNew3
