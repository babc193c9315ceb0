section CPrim
variable {g : Nat → Nat} {B : Nat} {O : Nat → Prop} {c : CS} {Q : Rs → CS → Prop} {k pc : Nat} {ls : LV} {st : List Value}
theorem cr_rcv {a k2 : Nat} {as : List Value} (h1 : mS k2 = false) (h2 : mI k2 = false) (h3 : mO k2 ≤ 8) (hK : yK c a = mO k2 + 1) : ∀ σ, CI g O σ c → rcv σ 0 k2 (.ref a :: as) = true := fun _ hC => rcv0 h1 h2 h3 (hC.kind hK (by omega))
theorem cr_rcvS {j k2 : Nat} {as : List Value} (h1 : mS k2 = false) (h2 : mI k2 = false) (h3 : mO k2 = 9) (hj : j < 10) : ∀ σ, CI g O σ c → rcv σ 0 k2 (.ref (g (100 + j)) :: as) = true := fun _ hC => rcv0S h1 h2 h3 (hC.2.2.2.2.2.2.2.2.1.2.2 j hj).1.2.2.1
/-- new Text() -/
theorem cq_newT {i1 i2 : Nat} (hd1 : decode (mB k) pc = .ok (.new i1, 3)) (hk1 : kR (mO k) i1 = some 6) (hd2 : decode (mB k) (pc + 3) = .ok (.dup, 1)) (hd3 : decode (mB k) (pc + 4) = .ok (.invokespecial i2, 3)) (hk2 : cR (mO k) i2 = some 52) (hrm : rmOK k 52 = true) (hst : st.length ≤ 3) (hU : yU c + 4100 ≤ B)
    (h : ∀ b, yK c b = 0 → CW g B O k (pc + 7) ls (.ref b :: st) (wN c b 7 0 4100) Q) (ht1 : tR k pc = none := by rfl) (ht2 : tR k (pc + 3) = none := by rfl) (ht3 : tR k (pc + 4) = none := by rfl) : CW g B O k pc ls st c Q :=
  fun hB σ hC => WP.ok fun hz => by
    have hu := hC.1
    have hN0 : zK σ (zN σ) = 0 := hz _ (Nat.le_refl _)
    refine r_new (N := 2) hd1 hk1 (by decide) rfl (by omega) (by show _ + 2 ≤ _; omega) ?_ ht1
    refine r_g (pc' := pc + 4) (ls' := ls) (st' := .ref (zN σ) :: .ref (zN σ) :: st) hd2 (fun _ => rfl) ?_ rfl ht2
    refine r_call (th := false) (rest := .ref (zN σ) :: st) (ls2 := [some (.ref (zN σ))]) (pc' := pc + 7) hd3 (fun _ => ex_calI hk2 (by decide)) hrm (by show 1 ≤ st.length + 1 + 1; omega) (by show st.length + 1 ≤ 4; omega) (by show 1 ≤ 1; omega) rfl rfl rfl rfl (fun q => nomatch q) ?_ rfl ht3
    have hN1 : zN (alO σ 7 2) = zN σ + 1 := rfl
    refine b52_0 ⟨8, rfl, by omega, by rw [show zN (alO σ (6 + 1) 2) = zN σ + 1 from rfl]; omega, by rw [show zS (alO σ (6 + 1) 2) = zS σ + 2 from rfl]; omega, fun τ2 e2 => ?_⟩
    rw [show zN (alO σ (6 + 1) 2) = zN σ + 1 from rfl]
    have f2 : ∀ y, zK τ2 y = if y = zN σ + 1 then 102 else if y = zN σ then 7 else zK σ y := fun y => by subst e2; rfl
    refine ⟨by rw [f2, if_neg (by omega), if_pos rfl], fun τ3 e3 => ⟨by subst e3; rw [zK_stP, f2, if_neg (by omega), if_pos rfl], fun τ4 e4 => ?_⟩⟩
    have k1 : zN τ4 = zN σ + 1 + 1 ∧ zS τ4 = zS σ + 2 + 8 := by subst e4 e3 e2; exact ⟨rfl, rfl⟩
    have kK : ∀ y, zK τ4 y = if y = zN σ + 1 then 102 else if y = zN σ then 7 else zK σ y := fun y => by subst e4 e3; exact f2 y
    have kL : zL τ4 (zN σ + 1) = 8 := by
      subst e4 e3 e2
      exact if_pos rfl
    have kP : zP τ4 (zN σ) 0 = some (zN σ + 1) := by subst e4 e3; rw [zP_stI, zP_stP, if_pos ⟨rfl, rfl⟩]
    have kI : zI τ4 (zN σ) 1 = iI 0 := by subst e4; rw [zI_stI, if_pos ⟨rfl, rfl⟩]; rfl
    have hs : ∀ x, x < zN σ → Sm σ τ4 x := fun x hx => by
      have q1 : ¬ x = zN σ := by omega
      have q2 : ¬ x = zN σ + 1 := by omega
      refine ⟨by rw [kK, if_neg q2, if_neg q1], ?_, ?_, ?_⟩
      · subst e4 e3 e2
        exact if_neg q2
      · subst e4 e3 e2
        funext j
        rw [zI_stI, if_neg (fun q => q1 q.1), zI_stP, zI_alA, zN_alO, if_neg q2, zI_alO, if_neg q1]
      · subst e4 e3 e2
        funext j
        rw [zP_stI, zP_stP, if_neg (fun q => q1 q.1), zP_alA, zN_alO, if_neg q2, zP_alO, if_neg q1]
    have kN : zK τ4 (zN σ) = 7 := by rw [kK, if_neg (by omega), if_pos rfl]
    have hcN : crd τ4 (zN σ) = 2040 := by unfold crd; rw [if_pos kN, kP]; dsimp only; rw [kL]
    have hcN1 : crd τ4 (zN σ + 1) = 0 := by unfold crd; rw [kK, if_pos rfl]; rfl
    have hpot : pot τ4 = pot σ + 2040 := by
      unfold pot
      rw [k1.1]
      show sumN _ _ + _ + _ = _
      rw [hcN, hcN1, sumN_congr (fun a ha => crd_of (hs a ha).1 (fun q => ⟨by rw [(hs a ha).2.2.2], fun b hb => (hs b (hC.2.2.2.2.2.2.2.2.2.2 a b q hb)).2.1⟩) (fun _ => by rw [(hs a ha).2.2.1]))]
    obtain ⟨q1, q2, q3⟩ := CI_newX (τ := τ4) (κ := 7) (cost := 4100) hC hz (by omega) hs (by rw [kK, if_neg (by omega), if_pos rfl]) (Or.inl rfl) (fun _ => ⟨⟨zN σ + 1, kP, ⟨hC.2.2.2.2.2.2.2.2.2.1 _ (by omega), by omega, by rw [kK, if_pos rfl], (if_neg (by omega)).trans (Decidable.of_not_not fun q => by have := (hC.2.2.1 _ q).2.1; omega)⟩, by rw [kL]; exact ⟨by omega, by omega, by show 0 ≤ 8; omega⟩, kI, fun i hi => absurd hi (Nat.not_lt_zero _)⟩, _, kP, by omega⟩) (fun q => by omega) (fun x hx => by
        rw [kK]
        by_cases r : x = zN σ + 1
        · rw [if_pos r]; omega
        · rw [if_neg r, if_neg (by omega), hz x (by omega)]; omega) (by omega)
    exact CW.at (h _ q3) hU q1 q2
/-- new ArrayList() -/
theorem cq_newL {i1 i2 : Nat} (hd1 : decode (mB k) pc = .ok (.new i1, 3)) (hk1 : kR (mO k) i1 = some 0) (hd2 : decode (mB k) (pc + 3) = .ok (.dup, 1)) (hd3 : decode (mB k) (pc + 4) = .ok (.invokespecial i2, 3)) (hk2 : cR (mO k) i2 = some 158) (hrm : rmOK k 158 = true) (hst : st.length ≤ 3) (hU : yU c + 15400 ≤ B)
    (h : ∀ b, yK c b = 0 → CW g B O k (pc + 7) ls (.ref b :: st) (wN c b 1 0 15400) Q) (ht1 : tR k pc = none := by rfl) (ht2 : tR k (pc + 3) = none := by rfl) (ht3 : tR k (pc + 4) = none := by rfl) : CW g B O k pc ls st c Q :=
  fun hB σ hC => WP.ok fun hz => by
    have hu := hC.1
    have hN0 : zK σ (zN σ) = 0 := hz _ (Nat.le_refl _)
    refine r_new (N := 3) hd1 hk1 (by decide) rfl (by omega) (by show _ + 3 ≤ _; omega) ?_ ht1
    refine r_g (pc' := pc + 4) (ls' := ls) (st' := .ref (zN σ) :: .ref (zN σ) :: st) hd2 (fun _ => rfl) ?_ rfl ht2
    refine r_call (th := false) (rest := .ref (zN σ) :: st) (ls2 := [some (.ref (zN σ))]) (pc' := pc + 7) hd3 (fun _ => ex_calI hk2 (by decide)) hrm (by show 1 ≤ st.length + 1 + 1; omega) (by show st.length + 1 ≤ 4; omega) (by show 1 ≤ 1; omega) rfl rfl rfl rfl (fun q => nomatch q) ?_ rfl ht3
    have kk : zK (alO σ (0 + 1) 3) (zN σ) = 1 := by rw [zK_alO, if_pos rfl]
    refine b158_0 (b157_0 (b156_0 (b157_4 ⟨kk, fun τ1 e1 => b158_4 ⟨by subst e1; exact kk, fun τ2 e2 => ?_⟩⟩)))
    have k1 : zN τ2 = zN σ + 1 ∧ zS τ2 = zS σ + 3 := by subst e2 e1; exact ⟨rfl, rfl⟩
    have kK : ∀ y, zK τ2 y = if y = zN σ then 1 else zK σ y := fun y => by subst e2 e1; rfl
    have kP : zP τ2 (zN σ) 1 = some (g 1) := by subst e2; rw [zP_stP, if_pos ⟨rfl, rfl⟩]
    have kI : zI τ2 (zN σ) 2 = iI 0 := by subst e2 e1; rw [zI_stP, zI_stI, if_neg (by omega), zI_alO, if_pos rfl]; rfl
    have hs : ∀ x, x < zN σ → Sm σ τ2 x := fun x hx => by
      have q1 : ¬ x = zN σ := by omega
      refine ⟨by rw [kK, if_neg q1], ?_, ?_, ?_⟩
      · subst e2 e1
        rfl
      · subst e2 e1
        funext j
        rw [zI_stP, zI_stI, if_neg (fun q => q1 q.1), zI_alO, if_neg q1]
      · subst e2 e1
        funext j
        rw [zP_stP, if_neg (fun q => q1 q.1), zP_stI, zP_alO, if_neg q1]
    have hcN : crd τ2 (zN σ) = 7680 := by unfold crd; rw [kK, if_pos rfl, if_neg (by omega), if_pos rfl, kI]; decide
    have hpot : pot τ2 = pot σ + 7680 := by
      rw [pot_new k1.1 (fun a ha => crd_of (hs a ha).1 (fun q => ⟨by rw [(hs a ha).2.2.2], fun b hb => (hs b (hC.2.2.2.2.2.2.2.2.2.2 a b q hb)).2.1⟩) (fun _ => by rw [(hs a ha).2.2.1])), hcN]
    have hg := hC.2.2.2.2.2.2.2.2.1.2.1
    obtain ⟨q1, q2, q3⟩ := CI_newX (τ := τ2) (κ := 1) (cost := 15400) hC hz (by omega) hs (by rw [kK, if_pos rfl]) (Or.inr rfl) (fun q => by omega) (fun _ => ⟨⟨g 1, kP, Or.inl rfl, by rw [(hs _ hg.2.1).2.1, hg.2.2.2]; exact ⟨by omega, Nat.le_refl _, by show 0 ≤ 64; omega, Or.inl rfl⟩, kI, fun i hi => absurd hi (Nat.not_lt_zero _)⟩, kP⟩) (fun x hx => by rw [kK, if_neg (by omega), hz x (by omega)]; omega) (by omega)
    exact CW.at (h _ q3) hU q1 q2
/-- signs[i] of a Text -/
theorem cq_tch {i1 a : Nat} {i2 : Instr} {x : Int} {len : Nat} (hd1 : decode (mB k) pc = .ok (.getfield i1, 3)) (hf : fR (mO k) i1 = some (6, 0)) (hd2 : decode (mB k) (pc + 3) = .ok (i2, len)) (hl2 : len = ilen i2) (hex : ∀ (σ : PS) (st : List Value) (rec : Nat → Nat → LV → List Value → PS → Option (Rs × PS)), ex g (B / 8) B rec k (pc + 3) (ilen i2) ls st σ i2 = rec k (pc + 3 + len) ls (.int (iI x) :: st) σ) (hd3 : decode (mB k) (pc + 3 + len) = .ok (.caload, 1)) (hK : yK c a = 7) (hx : 0 ≤ x ∧ x < (yT c a).length)
    (h : CW g B O k (pc + 3 + len + 1) ls (.int (iI (sg (yT c a) x)) :: st) c Q) (ht1 : tR k pc = none := by rfl) (ht2 : tR k (pc + 3) = none := by rfl) (ht3 : tR k (pc + 3 + len) = none := by rfl) : CW g B O k pc ls (.ref a :: st) c Q :=
  fun hB σ hC => by
    obtain ⟨b, hb, ⟨-, -, bK, -⟩, ⟨-, q2, q3⟩, -, hc⟩ := hC.2.2.2.1 a hK
    refine r_getP hd1 hf (by decide) rfl (hC.kind hK (by omega)) hb ?_ ht1
    refine r_g (pc' := pc + 3 + len) (ls' := ls) (st' := .int (iI x) :: .ref b :: st) hd2 (hex σ _) ?_ hl2 ht2
    refine r_cald (n := x.toNat) hd3 (iI_tn hx.1) (by omega) bK (by omega) ?_ ht3
    rw [(hc x.toNat (by omega)).1, ← sg_in hx]
    exact h hB σ hC
/-! the texts of the class file -/
theorem tx_ok : ∀ j, j < 10 → (tx j).length = sLen j ∧ ∀ z, z ∈ tx j → 0 ≤ z ∧ z ≤ 127 := by decide
theorem tx_get {j i : Nat} : sByt j i = iI ((tx j).getD i 0) := by
  unfold sByt tx
  generalize sBs.getD j [] = l
  rw [List.getD_eq_getElem?_getD, List.getD_eq_getElem?_getD, List.getElem?_map]
  cases h : l[i]? with
  | none => rfl
  | some z => exact (iI_of z).symm
theorem tx_in {j i : Nat} (hj : j < 10) (hi : i < (tx j).length) : 0 ≤ (tx j).getD i 0 ∧ (tx j).getD i 0 ≤ 127 := by
  refine (tx_ok j hj).2 _ ?_
  rw [List.getD_eq_getElem?_getD, List.getElem?_eq_getElem hi]
  exact List.getElem_mem hi
theorem p150 {C S : Nat} {σ : PS} {Q : Rs → PS → Prop} {j : Nat} (hE : EnC g O σ) (hj : j < 10) (h : Q (Sum.inl (some (.int (iI (tx j).length)))) σ) : WP g C S 150 0 [some (.ref (g (100 + j)))] [] σ Q := by
  obtain ⟨⟨-, -, a3, a4, a5⟩, -, -, b3, b4, b5⟩ := hE.2.2 j hj
  refine b150_0 ⟨a3, _, a4, Or.inr (Or.inl b3), a3, b152_0 ⟨fun q => absurd q (by decide), fun _ => ⟨a3, b152_14 ⟨by rw [a5]; rfl, b150_9 ?_⟩⟩⟩⟩
  rw [a5, b4, ← (tx_ok j hj).1, sb_shr0, iI_nat]
  exact h
theorem p151 {C S : Nat} {σ : PS} {Q : Rs → PS → Prop} {j : Nat} {x : Int} (hE : EnC g O σ) (hj : j < 10) (hx : 0 ≤ x ∧ x < (tx j).length) (h : Q (Sum.inl (some (.int (iI ((tx j).getD x.toNat 0))))) σ) : WP g C S 151 0 [some (.ref (g (100 + j))), some (.int (iI x))] [] σ Q := by
  obtain ⟨⟨-, -, a3, a4, a5⟩, -, -, b3, b4, b5⟩ := hE.2.2 j hj
  have hlen := (tx_ok j hj).1
  have hl64 : sLen j ≤ 64 := by
    have : ∀ j, j < 10 → sLen j ≤ 64 := by decide
    exact this j hj
  have hz := tx_in (i := x.toNat) hj (by omega)
  have e : ((((zI σ (g (200 + j)) x.toNat) &&& 255).toUInt32 % 65536).toInt32) = iI ((tx j).getD x.toNat 0) := by
    rw [sc_c2, b5 x.toNat (by omega), tx_get]
    have := iI_and 8 (by decide) ((tx j).getD x.toNat 0)
    rw [show (255 : Int32) = iI (2 ^ 8 - 1) from by decide, this, Int.emod_eq_of_lt hz.1 (by omega)]
  refine b151_0 ⟨a3, b153_0 ⟨fun q => absurd q (by decide), fun _ => ⟨a3, fun q => absurd a5 q, fun _ => b153_18 ⟨Or.inr rfl, b151_4 ⟨fun q => absurd q (by decide), fun _ => ⟨a3, _, a4, b155_0 ⟨Or.inr (Or.inl b3), p154 ?_ ?_ (b155_6 ⟨x.toNat, iI_tn hx.1, by omega, b3, by omega, ?_⟩)⟩⟩⟩⟩⟩⟩⟩
  · rw [iI_0, iI_lt (by omega) (by omega)]; omega
  · rw [b4, iI_nat, iI_lt (by omega) (by omega)]; omega
  · rw [e]
    have hn := (nar_ok (x := (tx j).getD x.toNat 0) (by omega)).2
    exact ⟨hn, b151_15 ⟨hn, h⟩⟩
/-- what a character is folded to -/
def fo (x : Int) : Int := if 65 ≤ x ∧ x ≤ 90 then x + 32 else if 192 ≤ x ∧ x ≤ 255 then (tx 0).getD (x - 192).toNat 0 else x
theorem p90 {C S : Nat} {σ : PS} {Q : Rs → PS → Prop} {x : Int} (hE : EnC g O σ) (hx : 0 ≤ x ∧ x ≤ 65535) (h : Q (Sum.inl (some (.int (iI (fo x))))) σ) : WP g C S 90 0 [some (.int (iI x)), none] [] σ Q := by
  have hl0 : (tx 0).length = 64 := by decide
  have n65 : (65 : Int32) = iI 65 := by decide
  have n90 : (90 : Int32) = iI 90 := by decide
  have n192 : (192 : Int32) = iI 192 := by decide
  have a3 := (hE.2.2 0 (by decide)).1.2.2.1
  have last : (x < 65 ∨ 90 < x) → WP g C S 90 20 [some (.int (iI x)), none] [] σ Q := fun hq => by
    have e : iI x - 192 = iI (x - 192) := by rw [n192, iI_sub]
    refine b90_20 ⟨fun q => b90_48 (b90_49 ?_), fun q => ⟨a3, ?_⟩⟩
    · rw [e, iI_0, iI_lt (by omega) (by omega)] at q
      have : fo x = x := by unfold fo; rw [if_neg (by omega), if_neg (by omega)]
      rw [this] at h
      exact h
    · rw [e, iI_0, iI_lt (by omega) (by omega)] at q
      rw [e]
      refine p150 (j := 0) hE (by decide) (b90_36 ⟨fun r => b90_48 (b90_49 ?_), fun r => ⟨a3, ?_⟩⟩)
      · rw [iI_le (by omega) (by omega)] at r
        have : fo x = x := by unfold fo; rw [if_neg (by omega), if_neg (by omega)]
        rw [this] at h
        exact h
      · rw [iI_le (by omega) (by omega)] at r
        refine p151 (j := 0) hE (by decide) (by omega) (b90_45 (b90_49 ?_))
        have : fo x = (tx 0).getD (x - 192).toNat 0 := by unfold fo; rw [if_neg (by omega), if_pos (by omega)]
        rw [this] at h
        exact h
  refine b90_0 ⟨fun q => ?_, fun q => ⟨fun r => ?_, fun r => ?_⟩⟩
  · rw [n65, iI_lt (by omega) (by omega)] at q
    exact last (Or.inl q)
  · rw [n90, iI_lt (by omega) (by omega)] at r
    exact last (Or.inr r)
  · rw [n65, iI_lt (by omega) (by omega)] at q
    rw [n90, iI_lt (by omega) (by omega)] at r
    have : fo x = x - 65 + 97 := by unfold fo; rw [if_pos (by omega)]; omega
    rw [this] at h
    rw [n65, show (97 : Int32) = iI 97 from by decide, iI_sub, iI_add]
    exact h
theorem t150 {j : Nat} (hj : j < 10) (h : Q (Sum.inl (some (.int (iI (tx j).length)))) c) : CW g B O 150 0 [some (.ref (g (100 + j)))] [] c Q :=
  fun hB _ hC => p150 hC.2.2.2.2.2.2.2.2.1 hj ⟨c, hB, hC, CF.rfl, h⟩
theorem t151 {j : Nat} {x : Int} (hj : j < 10) (hx : 0 ≤ x ∧ x < (tx j).length) (h : Q (Sum.inl (some (.int (iI ((tx j).getD x.toNat 0))))) c) : CW g B O 151 0 [some (.ref (g (100 + j))), some (.int (iI x))] [] c Q :=
  fun hB _ hC => p151 hC.2.2.2.2.2.2.2.2.1 hj hx ⟨c, hB, hC, CF.rfl, h⟩
theorem fo_R {x : Int} (h : 0 ≤ x ∧ x ≤ 255) : 0 ≤ fo x ∧ fo x ≤ 255 := by
  unfold fo
  split
  · omega
  · split
    · have := tx_in (j := 0) (i := (x - 192).toNat) (by decide) (by have : (tx 0).length = 64 := by decide
                                                                    omega)
      omega
    · omega
theorem getDi_set_eq {l : List Int} {n : Nat} {r : Int} (h : n < l.length) : (l.set n r).getD n 0 = r := by
  rw [List.getD_eq_getElem?_getD, List.getElem?_set_self h]
  rfl
theorem getDi_set_ne {l : List Int} {n i : Nat} {r : Int} (h : ¬ i = n) : (l.set n r).getD i 0 = l.getD i 0 := by
  rw [List.getD_eq_getElem?_getD, List.getElem?_set_ne (fun q => h q.symm), ← List.getD_eq_getElem?_getD]
theorem getDi_map {l : List Int} {f : Int → Int} {i : Nat} (h : i < l.length) : (l.map f).getD i 0 = f (l.getD i 0) := by
  rw [List.getD_eq_getElem?_getD, List.getD_eq_getElem?_getD, List.getElem?_map, List.getElem?_eq_getElem h]
  rfl
theorem ext_getD {l l' : List Int} (h : l.length = l'.length) (h2 : ∀ i, i < l.length → l.getD i 0 = l'.getD i 0) : l = l' := by
  apply List.ext_getElem h
  intro i h3 h4
  have := h2 i h3
  rw [List.getD_eq_getElem?_getD, List.getD_eq_getElem?_getD, List.getElem?_eq_getElem h3, List.getElem?_eq_getElem h4] at this
  exact this
theorem getD_mem {l : List Int} {i : Nat} (h : i < l.length) : l.getD i 0 ∈ l := by
  rw [List.getD_eq_getElem?_getD, List.getElem?_eq_getElem h]
  exact List.getElem_mem h
theorem t63a {a : Nat} {l : List Int} (hB : yU c ≤ B) (hk : yK c a = 7) (hr : ∀ x, x ∈ l → 0 ≤ x ∧ x ≤ 255) (h : Q (Sum.inl none) (wT c a (l.map fo))) {σ0 : PS} :
    ∀ (n i : Nat) (cur : List Int) (σ : PS), l.length - i = n → i ≤ l.length → cur.length = l.length → (∀ k, k < i → cur.getD k 0 = fo (l.getD k 0)) → (∀ k, i ≤ k → k < l.length → cur.getD k 0 = l.getD k 0) → CI g O σ (wT c a cur) → zOK σ → CF O σ0 σ → WP g (B / 8) B 63 2 [some (.ref a), some (.int (iI i))] [] σ (fun r τ => ∃ d, yU d ≤ B ∧ CI g O τ d ∧ CF O σ0 τ ∧ Q r d) := by
  intro n
  induction n with
  | zero =>
    intro i cur σ e1 e2 e3 e4 e5 hC hz hF
    have hk' : yK (wT c a cur) a = 7 := hk
    obtain ⟨b, hb, -, ⟨q1, q2, q3⟩, e, -⟩ := hC.2.2.2.1 a hk'
    rw [yT_wT] at q3 e
    have hcur : cur = l.map fo := ext_getD (by rw [List.length_map]; exact e3) (fun k hk => by rw [getDi_map (by omega)]; exact e4 k (by omega))
    refine b63_2 ⟨hC.kind hk' (by omega), fun _ => ⟨wT c a (l.map fo), hB, by rw [← hcur]; exact hC, hF, h⟩, fun q => absurd ?_ q⟩
    rw [e, iI_le (by omega) (by omega)]
    omega
  | succ n ih =>
    intro i cur σ e1 e2 e3 e4 e5 hC hz hF
    have hk' : yK (wT c a cur) a = 7 := hk
    obtain ⟨b, hb, ⟨-, -, bK, -⟩, ⟨q1, q2, q3⟩, e, hc⟩ := hC.2.2.2.1 a hk'
    rw [yT_wT] at q3 e hc
    have aK := hC.kind hk' (by omega)
    have hi : i < l.length := by omega
    have hx := hr _ (getD_mem hi)
    have hab : ¬ a = b := fun q => by rw [q] at aK; omega
    refine b63_2 ⟨aK, fun q => ?_, fun _ => ⟨aK, b, hb, aK, b, hb, i, by rw [iI_nat], by omega, bK, by omega, ?_⟩⟩
    · rw [e, iI_le (by omega) (by omega)] at q
      omega
    · rw [(hc i (by omega)).1, e5 i (Nat.le_refl _) hi]
      have hf := fo_R hx
      refine p90 hC.2.2.2.2.2.2.2.2.1 (by omega) (b63_24 ⟨i, by rw [iI_nat], by omega, bK, by omega, fun τ2 f2 => ?_⟩)
      rw [(nar_ok (x := fo (l.getD i 0)) (by omega)).1] at f2
      have hlen : (cur.set i (fo (l.getD i 0))).length = l.length := by rw [List.length_set]; exact e3
      have hs := CI_textI (l := cur.set i (fo (l.getD i 0))) (τ := τ2) hC hz hk' hb (by subst f2; exact ⟨rfl, rfl, rfl, rfl, rfl⟩) (fun y r1 r2 => by subst f2; exact funext fun j => by rw [zI_stI, if_neg (fun q => r2 q.1)]) (by omega) (by subst f2; rw [zI_stI, if_neg (fun q => hab q.1), e, hlen, e3]) (fun j hj => by
        rw [hlen] at hj
        by_cases q : j = i
        · rw [q, getDi_set_eq (by omega)]
          exact ⟨by subst f2; rw [zI_stI, if_pos ⟨rfl, rfl⟩], by omega⟩
        · rw [getDi_set_ne q]
          have : zI τ2 b j = zI σ b j := by subst f2; rw [zI_stI, if_neg (fun r => q r.2)]
          rw [this]
          exact hc j (by omega))
      rw [wT_wT] at hs
      have e6 : iI (i : Int) + 1 = iI ((i + 1 : Nat) : Int) := by rw [show (1 : Int32) = iI 1 from rfl, iI_add]; rfl
      rw [e6]
      refine ih (i + 1) _ τ2 (by omega) (by omega) hlen (fun j hj => ?_) (fun j hj hj2 => ?_) hs.1 (by subst f2; exact hz) (hF.trans hs.2)
      · by_cases q : j = i
        · rw [q, getDi_set_eq (by omega)]
        · rw [getDi_set_ne q]
          exact e4 j (by omega)
      · rw [getDi_set_ne (by omega)]
        exact e5 j (by omega) hj2
theorem t63 {a : Nat} (hk : yK c a = 7) (hr : ∀ x, x ∈ yT c a → 0 ≤ x ∧ x ≤ 255) (h : Q (Sum.inl none) (wT c a ((yT c a).map fo))) : CW g B O 63 0 [some (.ref a), none] [] c Q := by
  intro hB σ hC
  refine WP.ok fun hz => b63_0 ?_
  exact t63a hB hk hr h _ 0 (yT c a) _ rfl (Nat.zero_le _) rfl (fun k hk => absurd hk (Nat.not_lt_zero _)) (fun _ _ _ => rfl) (by rw [wT_self]; exact hC) hz CF.rfl
end CPrim
