/-! INTS OF THE MACHINE BY THEIR INTEGERS -/
def iI (z : Int) : Int32 := Int32.ofInt z
def lI (z : Int) : Int64 := Int64.ofInt z
theorem iI_toInt {z : Int} (h : -2147483648 ≤ z ∧ z ≤ 2147483647) : (iI z).toInt = z := Int32.toInt_ofInt_of_le (by omega) (by omega)
theorem iI_of (x : Int32) : iI x.toInt = x := Int32.ofInt_toInt x
theorem iI_R (x : Int32) : -2147483648 ≤ x.toInt ∧ x.toInt ≤ 2147483647 := by
  have h1 := x.le_toInt
  have h2 := x.toInt_lt
  omega
theorem iI_lt {x y : Int} (hx : -2147483648 ≤ x ∧ x ≤ 2147483647) (hy : -2147483648 ≤ y ∧ y ≤ 2147483647) : iI x < iI y ↔ x < y := by
  rw [Int32.lt_iff_toInt_lt, iI_toInt hx, iI_toInt hy]
theorem iI_le {x y : Int} (hx : -2147483648 ≤ x ∧ x ≤ 2147483647) (hy : -2147483648 ≤ y ∧ y ≤ 2147483647) : iI x ≤ iI y ↔ x ≤ y := by
  rw [Int32.le_iff_toInt_le, iI_toInt hx, iI_toInt hy]
theorem iI_eq {x y : Int} (hx : -2147483648 ≤ x ∧ x ≤ 2147483647) (hy : -2147483648 ≤ y ∧ y ≤ 2147483647) : iI x = iI y ↔ x = y := by
  rw [← Int32.toInt_inj, iI_toInt hx, iI_toInt hy]
theorem iI_add (x y : Int) : iI x + iI y = iI (x + y) := (Int32.ofInt_add x y).symm
theorem iI_sub (x y : Int) : iI x - iI y = iI (x - y) := (Int32.ofInt_sub x y).symm
theorem iI_mul (x y : Int) : iI x * iI y = iI (x * y) := (Int32.ofInt_mul x y).symm
theorem iI_nat (n : Nat) : nI n = iI n := Int32.ofInt_eq_ofNat.symm
theorem iI_tn {z : Int} (h : 0 ≤ z) : iI z = nI z.toNat := by
  rw [iI_nat, Int.toNat_of_nonneg h]
theorem iI_div {x y : Int} (hx : 0 ≤ x ∧ x ≤ 2147483647) (hy : 0 < y ∧ y ≤ 2147483647) : iI x / iI y = iI (x / y) := by
  rw [← Int.tdiv_eq_ediv_of_nonneg hx.1]
  exact (Int32.ofInt_tdiv (show (-2147483648 : Int) ≤ _ by omega) (show _ ≤ (2147483647 : Int) by omega) (show (-2147483648 : Int) ≤ _ by omega) (show _ ≤ (2147483647 : Int) by omega)).symm
theorem iI_rem {x y : Int} (hx : 0 ≤ x ∧ x ≤ 2147483647) (hy : 0 < y ∧ y ≤ 2147483647) : iI x - iI x / iI y * iI y = iI (x % y) := by
  rw [iI_div hx hy, iI_mul, iI_sub, Int.mul_comm, Int.emod_def]
theorem iI_and (n : Nat) (hn : n ≤ 30) (x : Int) : iI x &&& iI (2 ^ n - 1) = iI (x % 2 ^ n) := by
  apply Int32.toBitVec_inj.1
  apply BitVec.eq_of_toNat_eq
  show (BitVec.ofInt 32 x &&& BitVec.ofInt 32 (2 ^ n - 1)).toNat = (BitVec.ofInt 32 (x % 2 ^ n)).toNat
  have hp : (2 : Nat) ^ n ∣ 2 ^ 32 := Nat.pow_dvd_pow 2 (by omega)
  have h1 : (0 : Nat) < 2 ^ n := Nat.pow_pos (by decide)
  have h2 : (2 : Nat) ^ n ≤ 2 ^ 30 := Nat.pow_le_pow_right (by decide) hn
  have e : ((2 : Int) ^ n - 1) = ((2 ^ n - 1 : Nat) : Int) := by
    rw [Int.ofNat_sub (by omega)]
    simp
  have e2 : ((2 : Int) ^ n) = ((2 ^ n : Nat) : Int) := by simp
  rw [BitVec.toNat_and, BitVec.toNat_ofInt, BitVec.toNat_ofInt, BitVec.toNat_ofInt, e, e2]
  have e3 : (((2 ^ n - 1 : Nat) : Int) % ((2 ^ 32 : Nat) : Int)).toNat = 2 ^ n - 1 := by
    rw [← Int.natCast_emod, Int.toNat_natCast, Nat.mod_eq_of_lt (by omega)]
  rw [e3, Nat.and_two_pow_sub_one_eq_mod]
  have h3 : 0 ≤ x % ((2 ^ n : Nat) : Int) := Int.emod_nonneg _ (by omega)
  have h4 : x % ((2 ^ n : Nat) : Int) < ((2 ^ n : Nat) : Int) := Int.emod_lt_of_pos _ (by omega)
  rw [Int.emod_eq_of_lt h3 (Int.lt_trans h4 (Int.ofNat_lt.mpr (by omega)))]
  have h5 : 0 ≤ x % ((2 ^ 32 : Nat) : Int) := Int.emod_nonneg _ (by decide)
  apply Int.ofNat.inj
  show (((x % ((2 ^ 32 : Nat) : Int)).toNat % 2 ^ n : Nat) : Int) = ((x % ((2 ^ n : Nat) : Int)).toNat : Int)
  rw [Int.natCast_emod, Int.toNat_of_nonneg h5, Int.toNat_of_nonneg h3]
  exact Int.emod_emod_of_dvd x (Int.natCast_dvd_natCast.mpr hp)
/-- c >> y, y from 0 to 31 -/
theorem iI_shr {x y : Int} (hx : -2147483648 ≤ x ∧ x ≤ 2147483647) (hy : y = 0 ∨ y = 8 ∨ y = 16 ∨ y = 24) : iI x >>> (iI y &&& 31) = iI (x / 2 ^ y.toNat) := by
  apply Int32.toInt_inj.1
  rcases hy with q | q | q | q <;> subst q
  · rw [pk_shr _ _ 0 (by decide), iI_toInt hx, Int.shiftRight_eq_div_pow, iI_toInt (by show _ ≤ x / 1 ∧ x / 1 ≤ _; omega)]
    rfl
  · rw [pk_shr _ _ 8 (by decide), iI_toInt hx, Int.shiftRight_eq_div_pow, iI_toInt (by show _ ≤ x / 256 ∧ x / 256 ≤ _; omega)]
    rfl
  · rw [pk_shr _ _ 16 (by decide), iI_toInt hx, Int.shiftRight_eq_div_pow, iI_toInt (by show _ ≤ x / 65536 ∧ x / 65536 ≤ _; omega)]
    rfl
  · rw [pk_shr _ _ 24 (by decide), iI_toInt hx, Int.shiftRight_eq_div_pow, iI_toInt (by show _ ≤ x / 16777216 ∧ x / 16777216 ≤ _; omega)]
    rfl
theorem iI_ushr {x y : Int} (hy : y = 0 ∨ y = 8 ∨ y = 16 ∨ y = 24) : ((iI x).toUInt32 >>> ((iI y).toUInt32 &&& Int32.toUInt32 31)).toInt32 = iI (x % 4294967296 / 2 ^ y.toNat) := by
  apply Int32.toBitVec_inj.1
  apply BitVec.eq_of_toNat_eq
  have e0 : (iI x).toBitVec.toNat = (x % 4294967296).toNat := BitVec.toNat_ofInt ..
  have e1 : ∀ z : Int, (iI z).toBitVec.toNat = (z % 4294967296).toNat := fun z => BitVec.toNat_ofInt ..
  rcases hy with q | q | q | q <;> subst q
  · rw [pk_ushr _ _ 0 (by decide), e0, e1]
    show (x % 4294967296).toNat / 1 = (x % 4294967296 / 1 % 4294967296).toNat
    omega
  · rw [pk_ushr _ _ 8 (by decide), e0, e1]
    show (x % 4294967296).toNat / 256 = (x % 4294967296 / 256 % 4294967296).toNat
    omega
  · rw [pk_ushr _ _ 16 (by decide), e0, e1]
    show (x % 4294967296).toNat / 65536 = (x % 4294967296 / 65536 % 4294967296).toNat
    omega
  · rw [pk_ushr _ _ 24 (by decide), e0, e1]
    show (x % 4294967296).toNat / 16777216 = (x % 4294967296 / 16777216 % 4294967296).toNat
    omega
/-! longs -/
theorem lI_toInt {z : Int} (h : 0 ≤ z ∧ z < 9223372036854775808) : (lI z).toInt = z := Int64.toInt_ofInt_of_le (by omega) (by omega)
theorem lI_ne0 {z : Int} (h : 0 ≤ z ∧ z < 9223372036854775808) : lg_cmp (lI z) (lI 0) = iI (if z = 0 then 0 else 1) := by
  unfold lg_cmp
  by_cases hz : z = 0
  · subst hz
    decide
  · have h1 : lI z > lI 0 := by
      show lI 0 < lI z
      rw [Int64.lt_iff_toInt_lt, lI_toInt h, lI_toInt (by omega)]
      omega
    rw [if_pos h1, if_neg hz]
    rfl
theorem lI_div {x y : Int} (hx : 0 ≤ x ∧ x < 9223372036854775808) (hy : 0 < y ∧ y < 9223372036854775808) : lI x / lI y = lI (x / y) := by
  rw [← Int.tdiv_eq_ediv_of_nonneg hx.1]
  exact (Int64.ofInt_tdiv (show (-9223372036854775808 : Int) ≤ _ by omega) (show _ ≤ (9223372036854775807 : Int) by omega) (show (-9223372036854775808 : Int) ≤ _ by omega) (show _ ≤ (9223372036854775807 : Int) by omega)).symm
theorem lI_rem {x y : Int} (hx : 0 ≤ x ∧ x < 9223372036854775808) (hy : 0 < y ∧ y < 9223372036854775808) : lI x - lI x / lI y * lI y = lI (x % y) := by
  rw [lI_div hx hy]
  show Int64.ofInt x - Int64.ofInt (x / y) * Int64.ofInt y = Int64.ofInt (x % y)
  rw [← Int64.ofInt_mul, ← Int64.ofInt_sub, Int.mul_comm, Int.emod_def]
theorem lI_l2i {x : Int} (h : 0 ≤ x ∧ x ≤ 2147483647) : (lI x).toInt32 = iI x := by
  apply Int32.toInt_inj.1
  rw [Int64.toInt_toInt32, lI_toInt (by omega), iI_toInt (by omega), Int.bmod_eq_of_le (by omega) (by omega)]
/-! the two-way tests -/
theorem d_eq {x y : Int} (hx : -2147483648 ≤ x ∧ x ≤ 2147483647) (hy : -2147483648 ≤ y ∧ y ≤ 2147483647) : cnd .eq (iI x) (iI y) = true ↔ x = y := c_eq.trans (iI_eq hx hy)
theorem d_ne {x y : Int} (hx : -2147483648 ≤ x ∧ x ≤ 2147483647) (hy : -2147483648 ≤ y ∧ y ≤ 2147483647) : cnd .ne (iI x) (iI y) = true ↔ ¬ x = y := c_ne.trans (not_congr (iI_eq hx hy))
theorem d_lt {x y : Int} (hx : -2147483648 ≤ x ∧ x ≤ 2147483647) (hy : -2147483648 ≤ y ∧ y ≤ 2147483647) : cnd .lt (iI x) (iI y) = true ↔ x < y := c_lt.trans (iI_lt hx hy)
theorem d_ge {x y : Int} (hx : -2147483648 ≤ x ∧ x ≤ 2147483647) (hy : -2147483648 ≤ y ∧ y ≤ 2147483647) : cnd .ge (iI x) (iI y) = true ↔ y ≤ x := c_ge.trans (iI_le hy hx)
theorem d_gt {x y : Int} (hx : -2147483648 ≤ x ∧ x ≤ 2147483647) (hy : -2147483648 ≤ y ∧ y ≤ 2147483647) : cnd .gt (iI x) (iI y) = true ↔ y < x := c_gt.trans (iI_lt hy hx)
theorem d_le {x y : Int} (hx : -2147483648 ≤ x ∧ x ≤ 2147483647) (hy : -2147483648 ≤ y ∧ y ≤ 2147483647) : cnd .le (iI x) (iI y) = true ↔ x ≤ y := c_le.trans (iI_le hx hy)
