theorem rcv0 {σ : PS} {k2 b : Nat} {as : List Value} (h1 : mS k2 = false) (h2 : mI k2 = false) (h3 : mO k2 ≤ 8) (hK : zK σ b = mO k2 + 1) : rcv σ 0 k2 (.ref b :: as) = true := by
  show (!mS k2 && !mI k2 && ((decide (mO k2 ≤ 8) && zK σ b == mO k2 + 1) || (mO k2 == 9 && zK σ b == 1000))) = true
  rw [h1, h2, hK]
  simp [h3]
theorem rcv0S {σ : PS} {k2 b : Nat} {as : List Value} (h1 : mS k2 = false) (h2 : mI k2 = false) (h3 : mO k2 = 9) (hK : zK σ b = 1000) : rcv σ 0 k2 (.ref b :: as) = true := by
  show (!mS k2 && !mI k2 && ((decide (mO k2 ≤ 8) && zK σ b == mO k2 + 1) || (mO k2 == 9 && zK σ b == 1000))) = true
  rw [h1, h2, hK, h3]
  rfl
theorem r_inc {g : Nat → Nat} {C S k pc i : Nat} {n : Int} {x v : Int32} {ls ls' : LV} {st : List Value} {σ : PS} {Q : Rs → PS → Prop} (hd : decode (mB k) pc = .ok (.iinc i n, 3)) (hx : ls[i]? = some (some (.int x))) (hi : i < ls.length) (hv : Int32.ofInt n = v) (hl : stl ls i (.int (x + v)) = ls') (h : WP g C S k (pc + 3) ls' st σ Q) (ht : tR k pc = none := by rfl) : WP g C S k pc ls st σ Q := by
  subst hl hv
  exact r_g hd (fun rec => by unfold ex; dsimp only; rw [if_pos hi, hx]; rfl) h rfl ht
