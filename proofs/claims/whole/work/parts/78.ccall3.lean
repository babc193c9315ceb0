/-! entry -/
section CCall3
variable {g : Nat → Nat} {B U : Nat} {O : Nat → Prop} {c d : CS} {Q : Rs → CS → Prop} {ℓ ℓ' : LB} {Es Rs : List Nat} {s : ST} {x : Nat} {A : Nat → Nat}
theorem k67 {k : Int} (h : XI U c ℓ x A Es Rs s) (hB : U + 2000000 ≤ B) (hk : -2147483648 ≤ k ∧ k ≤ 2147483647) (hQ : ∀ d, XE U d x A (x0 s k).2.2 → Q (rzI [3] (x0 s k)) d) : CW g B O 67 0 [some (.ref x), some (.int (iI k)), none] [] c Q := by
  obtain ⟨u1, u2, u3, u4⟩ := h.u hB
  have hS := SK0 (k := k) h.1
  unfold x0 at hQ hS
  obtain ⟨hS0, hE, ⟨hA, hLs, hR, h4, ⟨Ci, i1, i2, i3, i4⟩, h6, h7⟩, hU⟩ := id h
  obtain ⟨⟨a1, a2⟩, ⟨b0, b1, -⟩, ⟨c1, c2⟩, ⟨d1', d2'⟩, e1, ⟨f1, f2⟩, ⟨g1, g2⟩, -⟩ := id hA
  refine c67_0 ⟨a1, A 0, b0, c1, fun q => ⟨a1, A 0, b0, by omega, fun b hb d7 e7 => ?_⟩, fun q => ⟨by omega, ?_⟩⟩
  · rw [h4] at q ⊢
    rw [if_neg (by omega)] at hQ hS
    have nb : ∀ y, ¬ yK c y = 0 → ¬ y = b := fun y hy s => hy (by rw [s]; exact hb)
    have K7 : ∀ y, yK d7 y = if y = b then 2 else yK c y := fun y => by rw [e7]; rfl
    have F7 : FS (fun _ => False) ℓ (upL ℓ b (b, 0)) c d7 := ⟨fun y hy => ⟨by rw [K7, if_neg (nb y hy)], upL_ne (nb y hy)⟩, fun y hy _ => by rw [e7]; exact Kp_wN (nb y hy)⟩
    have U7 : yU d7 = yU c + 13 := by rw [e7]; rfl
    refine t0 (ℓ := upL ℓ b (b, 0)) (by rw [K7, if_pos rfl]) upL_eq (by omega) hk (by omega) (fun d2 ℓ2 ky fs E2 F2 U2 => ?_)
    have F2' : FS (fun _ => False) ℓ ℓ2 c d2 := ⟨fun y hy => by
      obtain ⟨q1, q2⟩ := F7.1 y hy
      obtain ⟨q3, q4⟩ := F2.1 y (by rw [q1]; exact hy)
      exact ⟨q3.trans q1, q4.trans q2⟩, fun y hy s => (F7.2 y hy s).trans (F2.2 y (by rw [(F7.1 y hy).1]; exact hy) (nb y hy))⟩
    have kp : ∀ y, ¬ yK c y = 0 → Kp c d2 y := fun y hy => F2'.2 y hy id
    have lb : ∀ y, ¬ yK c y = 0 → ℓ2 y = ℓ y := fun y hy => (F2'.1 y hy).2
    have k0 := kp (A 0) (by omega)
    have ey0 : yE d2 (A 0) = Es := by rw [k0.2.2.2.2]; exact h4
    obtain ⟨⟨t1, t2, t3, t4, t5, t6, t7⟩, ⟨v1, v2, v3⟩, ⟨y1, y2, y3⟩, y4⟩ := E2
    refine c67_37 ⟨by rw [k0.1]; exact c1, by rw [t1]; omega, by rw [ey0]; omega, fun d4 e4 => ?_⟩ (hx2 := by omega)
    rw [ey0] at e4
    have K4 : yK d4 = yK d2 := by rw [e4]; rfl
    have P4 : yP d4 = yP d2 := by rw [e4]; rfl
    have I4 : yI d4 = yI d2 := by rw [e4]; rfl
    have T4 : yT d4 = yT d2 := by rw [e4]; rfl
    have E4 : ∀ y, yE d4 y = if y = A 0 then Es ++ [b] else yE d2 y := fun y => by rw [e4]; rfl
    have U4 : yU d4 = yU d2 - 100 := by rw [e4]; rfl
    have kp4 : ∀ y, ¬ yK c y = 0 → ¬ y = A 0 → Kp c d4 y := fun y hy hn => (kp y hy).trans (by rw [e4]; exact (Kp_wE hn).trans Kp_wU)
    have hl4 : ∀ y, ¬ yK c y = 0 → ℓ2 y = ℓ y ∧ yK d4 y = yK c y := fun y hy => ⟨lb y hy, by rw [K4, (kp y hy).1]⟩
    have g1' : ∀ n, n < Es.length → (Es ++ [b]).getD n 0 = Es.getD n 0 := fun n hn => gA_lt hn
    have g2' : (Es ++ [b]).getD Es.length 0 = b := by rw [gA_ge (Nat.le_refl _), Nat.sub_self]; rfl
    have kS : ∀ a, ¬ yK c a = 0 → (SL ℓ (A 2) a ∨ yK c (ℓ (ℓ a).1).1 = 6) → Kp c d4 a := fun a ha w => kp4 a ha (fun z => by
      rcases w with w | w
      · rcases w with w | w
        · exact kne c1 hLs.1.1.1 (by decide) (z.symm.trans w)
        · rw [z, c2] at w
          exact kne a1 hLs.1.1.1 (by decide) w
      · rw [z, c2] at w
        have w : yK c (ℓ x).1 = 6 := w
        rw [a2] at w
        have w : yK c x = 6 := w
        omega)
    have hlen : (Es ++ [b]).length = Es.length + 1 := by rw [List.length_append]; rfl
    have hz := hS0.1.2.2.2.2.1 (dN (qD s)) (Nat.le_refl _)
    have kx := kp4 x (by omega) (kne a1 c1 (by decide))
    have k6 := kp4 (A 6) (by omega) (kne f1 c1 (by decide))
    have k1 := kp4 (A 1) (by omega) (lne d2' c2 (by simp))
    have g0 := g1.1
    refine (fun hq => ?_ : XE U d4 x A (wD s (addE (qD s) (if k < 0 ∨ 3 < k then 4 else k))) → _) ⟨ℓ2, Es ++ [b], Rs, hS, ⟨?_, fun m hm => ?_⟩, ⟨hA.keep hl4 (by have := hLs.1.1.1; omega) kx.2.2.1 (g1.keep hl4 (fun a ha w => kp4 a ha (fun z => ?_))), hLs.keep hl4 kS, ?_, by rw [E4, if_pos rfl], ⟨Ci, ?_, i2, i3, fun n hn => ?_⟩, by rw [kx.2.1]; exact h6, by rw [k6.2.2.2.1]; exact h7⟩, ?_⟩
    · have := hQ d4 hq
      rw [u2]
      exact this
    · rw [hlen, u2]; rfl
    · have hm : m < dN (qD s) + 1 := hm
      by_cases w : m = dN (qD s)
      · rw [w, show (Es ++ [b]).getD (dN (qD s)) 0 = b by rw [← u2]; exact g2']
        refine ⟨⟨by rw [K4]; exact t1, t2, by rw [I4, t3, u2], ?_, ?_⟩, ⟨ky, by rw [P4]; exact t5, by rw [K4]; exact v1, v2, ?_⟩, fs, by rw [P4]; exact t6, by rw [K4]; exact y1, y2, by rw [I4]; exact y3, fun f hf => ?_⟩
        · rw [I4, t4]
          exact (if_pos rfl).symm
        · rw [P4, t7]
          show _ = (dX (qD s) (dN (qD s))).map _
          rw [hz.2.2]
          rfl
        · rw [T4, v3]
          exact hz.1.symm
        · obtain ⟨ft, q1, q2, q3, q4⟩ := y4 f hf
          exact ⟨ft, by rw [P4]; exact q1, by rw [K4]; exact q2, q3, by rw [T4, q4]; exact (hz.2.1 f).symm⟩
      · have hm' : m < dN (qD s) := by omega
        rw [g1' m (by omega)]
        have hEm := hE.2 m hm'
        have hEm4 : EnI d4 ℓ2 Es (qD s) m (Es.getD m 0) := hEm.keep (fun a ha => lb a ha) (fun a ha w => kp4 a ha (fun z => by rw [z, c2] at w; have w : x = Es.getD m 0 := w; rw [← w] at hEm; have := hEm.1.1; omega))
        obtain ⟨⟨q1, q2, q3, q4, q5⟩, q6, q7⟩ := hEm4
        refine ⟨⟨q1, q2, q3, ?_, ?_⟩, q6, q7⟩
        · rw [q4]
          exact (if_neg w).symm
        · rw [q5]
          show (dX (qD s) m).map _ = (dX (qD s) m).map _
          cases hx : dX (qD s) m with
          | none => rfl
          | some o =>
            have := hS0.1.2.2.2.2.2.1 m o hx
            show some (Es.getD o 0) = some ((Es ++ [b]).getD o 0)
            rw [g1' o (by omega)]
    · rcases w with w | w
      · exact kne c1 g1.1 (by decide) (z.symm.trans w)
      · rw [z, c2] at w
        exact kne a1 g1.1 (by decide) w
    · obtain ⟨r1, r2, r3, r4⟩ := hR.keep hLs kS
      refine ⟨r1, r2, fun i hi => ?_, r4⟩
      obtain ⟨w1, w2, w3⟩ := r3 i hi
      have w2' : (oR (qR s)).getD i 0 < Es.length := w2
      refine ⟨?_, ?_, w3⟩
      · show yP d4 (Rs.getD i 0) 0 = some ((Es ++ [b]).getD ((oR (qR s)).getD i 0) 0)
        rw [g1' _ w2']; exact w1
      · show (oR (qR s)).getD i 0 < (Es ++ [b]).length
        omega
    · rw [k1.2.2.2.2, i1]
      refine List.map_congr_left (fun n hn => ?_)
      exact (g1' n (i4 n hn)).symm
    · have := i4 n hn
      omega
    · omega
  · rw [h4] at q
    rw [if_pos (by omega)] at hQ
    exact hQ c h.e
end CCall3
