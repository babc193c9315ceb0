/-! THE PURE MACHINE. A state: the next address, the slots in use, and by address: the kind, the length of an array, ints (fields or places), references (fields or places). Kinds: 1 + the number in vwCl; 101 int[], 102 char[], 103 Text[], 104 Object[]; constants: 1000 String, 1001 its bytes, 1002 NEEDED, 1003 the empty element data; 0 nothing that is known -/
abbrev PS : Type := Nat × Nat × (Nat → Nat) × (Nat → Nat) × (Nat → Nat → Int32) × (Nat → Nat → Option Nat)
def zN (σ : PS) : Nat := σ.1
def zS (σ : PS) : Nat := σ.2.1
def zK (σ : PS) : Nat → Nat := σ.2.2.1
def zL (σ : PS) : Nat → Nat := σ.2.2.2.1
def zI (σ : PS) : Nat → Nat → Int32 := σ.2.2.2.2.1
def zP (σ : PS) : Nat → Nat → Option Nat := σ.2.2.2.2.2
/-- a store of an int, of a reference; a new object (kind c, N slots); a new array (kind c, n places) -/
def stI (σ : PS) (a k : Nat) (v : Int32) : PS := (zN σ, zS σ, zK σ, zL σ, fun b j => if b = a ∧ j = k then v else zI σ b j, zP σ)
def stP (σ : PS) (a k : Nat) (v : Option Nat) : PS := (zN σ, zS σ, zK σ, zL σ, zI σ, fun b j => if b = a ∧ j = k then v else zP σ b j)
def alO (σ : PS) (c N : Nat) : PS := (zN σ + 1, zS σ + N, fun b => if b = zN σ then c else zK σ b, zL σ, fun b j => if b = zN σ then 0 else zI σ b j, fun b j => if b = zN σ then none else zP σ b j)
def alA (σ : PS) (c n : Nat) : PS := (zN σ + 1, zS σ + n, fun b => if b = zN σ then c else zK σ b, fun b => if b = zN σ then n else zL σ b, fun b j => if b = zN σ then 0 else zI σ b j, fun b j => if b = zN σ then none else zP σ b j)
/-- System.arraycopy: of ints, of references -/
def cpI (σ : PS) (a sp b dp n : Nat) : PS := (zN σ, zS σ, zK σ, zL σ, fun x j => if x = b then va_cpy (zI σ a) (zI σ b) sp dp n j else zI σ x j, zP σ)
def cpP (σ : PS) (a sp b dp n : Nat) : PS := (zN σ, zS σ, zK σ, zL σ, zI σ, fun x j => if x = b then va_cpy (zP σ a) (zP σ b) sp dp n j else zP σ x j)
/-- nothing lies at addresses to come -/
def zOK (σ : PS) : Prop := ∀ a, zN σ ≤ a → zK σ a = 0
/-- answers: a value or none; or the number of an exception -/
abbrev Rs : Type := Option Value ⊕ Nat
abbrev LV : Type := List (Option Value)
def clr : Option Value → Option Value
  | some (.long _) => none
  | some (.double _) => none
  | x => x
/-- a store into the locals -/
def stl (ls : LV) (i : Nat) (v : Value) : LV := (match i with | 0 => ls | j + 1 => ls.set j (clr (ls.getD j none))).set i (some v)
def stl2 (ls : LV) (i : Nat) (v : Value) : LV := ((match i with | 0 => ls | j + 1 => ls.set j (clr (ls.getD j none))).set i (some v)).set (i + 1) none
/-- a call's locals at its entry -/
def ent : List Value → LV
  | [] => []
  | .long x :: r => some (.long x) :: none :: ent r
  | .double x :: r => some (.double x) :: none :: ent r
  | v :: r => some v :: ent r
def entL (vs : List Value) (n : Nat) : LV := ent vs ++ List.replicate (n - (ent vs).length) none
def jmp (pc : Nat) (off : Int) : Option Nat := if 0 ≤ (pc : Int) + off then some ((pc : Int) + off).toNat else none
def cnd (c : Jvm.ClassFile.Cond) (x y : Int32) : Bool := match c with
  | .eq => decide (x = y)
  | .ne => decide (¬ x = y)
  | .lt => decide (x < y)
  | .ge => decide (y ≤ x)
  | .gt => decide (y < x)
  | .le => decide (x ≤ y)
def rfv (r : Option Nat) : Value := va_rf r
def rOf : Value → Option (Option Nat)
  | .ref a => some (some a)
  | .null => some none
  | _ => none
/-- an int that a method of this type may answer -/
def nOK (ty : Option FieldType) (x : Int32) : Bool := match ty with
  | some .int => true
  | some .boolean => decide (x = 0) || decide (x = 1)
  | some .char => decide (narrow .char (.int x) = .int x)
  | some .byte => decide (narrow .byte (.int x) = .int x)
  | _ => false
def aOK (ty : Option FieldType) : Bool := match ty with
  | some (.object _) => true
  | some (.array _) => true
  | _ => false
/-- the room for a call of k2 out of k -/
def rmOK (k k2 : Nat) : Bool := decide (mF k2 + 1 ≤ mF k) && decide (8 + (mL k2 + 11) + mW k2 ≤ mW k)
def stO (g : Nat → Nat) : Nat → Option Value
  | 0 => some (.ref (g 0))
  | 1 => some (.ref (g 1))
  | 2 => some (.int 1)
  | 3 => some (va_rf (if g 6 = 0 then none else some (g 6 - 1)))
  | _ => none
def okP (σ : PS) (r : Option Nat) : Bool := match r with
  | some y => decide (1 ≤ zK σ y) && decide (zK σ y ≤ 9)
  | none => true
/-- who may be called: 0 an instance's method, 1 a constructor, 2 a static one -/
def rcv (σ : PS) (op k2 : Nat) (as : List Value) : Bool := match op, as with
  | 0, .ref b :: _ => !mS k2 && !mI k2 && ((decide (mO k2 ≤ 8) && zK σ b == mO k2 + 1) || (mO k2 == 9 && zK σ b == 1000))
  | 1, .ref _ :: _ => !mS k2 && mI k2
  | 2, _ => mS k2
  | _, _ => false
/-- a call of a method of the table -/
def calM (rec : Nat → Nat → LV → List Value → PS → Option (Rs × PS)) (k pc len : Nat) (ls : LV) (st : List Value) (σ : PS) (k2 op : Nat) : Option (Rs × PS) :=
  if rmOK k k2 = true ∧ mA k2 ≤ st.length ∧ (st.drop (mA k2)).length ≤ 4 ∧ (ent (st.take (mA k2)).reverse).length ≤ mL k2 ∧ rcv σ op k2 (st.take (mA k2)).reverse = true then
    match rec k2 0 (entL (st.take (mA k2)).reverse (mL k2)) [] σ with
    | some (.inl v, τ) => rec k (pc + len) ls (v.toList ++ st.drop (mA k2)) τ
    | some (.inr j, τ) => if 81 ≤ k2 ∧ k2 ≤ 86 then some (.inr j, τ) else none
    | none => none
  else none
def calA (rec : PS → Option (Rs × PS)) (σ : PS) (a sp b dp n : Nat) : Option (Rs × PS) :=
  if sp + n ≤ zL σ a ∧ dp + n ≤ zL σ b ∧ ¬ a = b then
    if zK σ a = 102 ∧ zK σ b = 102 ∧ (∀ i, i < n → narrow .char (.int (zI σ a (sp + i))) = .int (zI σ a (sp + i))) then rec (cpI σ a sp b dp n)
    else if zK σ a = 104 ∧ zK σ b = 104 ∧ (∀ i, i < n → okP σ (zP σ a (sp + i)) = true) then rec (cpP σ a sp b dp n)
    else none
  else none
/-- the few that stand for themselves: Object.<init>, System.arraycopy, Math.max, Math.min, getClass -/
def calS (g : Nat → Nat) (rec : List Value → PS → Option (Rs × PS)) (k : Nat) (st : List Value) (σ : PS) (k2 op : Nat) : Option (Rs × PS) :=
  match k2, op, st with
  | 1000, 1, .ref _ :: r => if r.length ≤ 4 ∧ 1 ≤ mF k ∧ 20 ≤ mW k then rec r σ else none
  | 1001, 2, .int n :: .int dp :: .ref b :: .int sp :: .ref a :: r =>
    if r.length ≤ 4 ∧ 1 ≤ mF k ∧ 60 ≤ mW k ∧ ¬ sp < 0 ∧ ¬ dp < 0 ∧ ¬ n < 0 then calA (rec r) σ a sp.toNatClampNeg b dp.toNatClampNeg n.toNatClampNeg else none
  | 1002, 2, .int y :: .int x :: r => if r.length ≤ 4 ∧ 1 ≤ mF k ∧ 21 ≤ mW k then rec (.int (if x < y then y else x) :: r) σ else none
  | 1003, 2, .int y :: .int x :: r => if r.length ≤ 4 ∧ 1 ≤ mF k ∧ 21 ≤ mW k then rec (.int (if y < x then y else x) :: r) σ else none
  | 1004, 0, .ref a :: r => if r.length ≤ 4 ∧ 1 ≤ mF k ∧ 22 ≤ mW k ∧ zK σ a = 104 then rec (.ref (g 7) :: r) σ else none
  | _, _, _ => none
def calX (g : Nat → Nat) (rec : Nat → Nat → LV → List Value → PS → Option (Rs × PS)) (k pc len : Nat) (ls : LV) (st : List Value) (σ : PS) (i op : Nat) : Option (Rs × PS) :=
  match cR (mO k) i with
  | none => none
  | some k2 => if 1000 ≤ k2 then calS g (rec k (pc + len) ls) k st σ k2 op else calM rec k pc len ls st σ k2 op
def kOK (c κ : Nat) : Bool := (decide (c ≤ 8) && κ == c + 1) || (c == 9 && κ == 1000)
def fldV (σ : PS) (a c j : Nat) : Value := if fB c j = true ∨ (c = 9 ∧ j = 0) then va_rf (zP σ a j) else .int (zI σ a j)
def getX (rec : List Value → Option (Rs × PS)) (k : Nat) (st : List Value) (σ : PS) (i : Nat) : Option (Rs × PS) :=
  match fR (mO k) i, st with
  | some (c, j), .ref a :: r => if kOK c (zK σ a) = true then rec (fldV σ a c j :: r) else none
  | _, _ => none
def putX (rec : List Value → PS → Option (Rs × PS)) (k : Nat) (st : List Value) (σ : PS) (i : Nat) : Option (Rs × PS) :=
  match fR (mO k) i, st with
  | some (c, j), v :: .ref a :: r =>
    if c ≤ 8 ∧ zK σ a = c + 1 ∧ (fF c j = false ∨ (mI k = true ∧ mO k = c)) then
      if fB c j = true then
        match rOf v with
        | some q => rec r (stP σ a j q)
        | none => none
      else
        match v with
        | .int x => if fZ c j = false ∨ x = 0 ∨ x = 1 then rec r (stI σ a j x) else none
        | _ => none
    else none
  | _, _ => none
/-- one instruction -/
def ex (g : Nat → Nat) (C S : Nat) (rec : Nat → Nat → LV → List Value → PS → Option (Rs × PS)) (k pc len : Nat) (ls : LV) (st : List Value) (σ : PS) (i : Instr) : Option (Rs × PS) :=
  match i with
  | .iconst n => rec k (pc + len) ls (.int (Int32.ofInt n) :: st) σ
  | .bipush n => rec k (pc + len) ls (.int (Int8.ofInt n).toInt32 :: st) σ
  | .sipush n => rec k (pc + len) ls (.int (Int16.ofInt n).toInt32 :: st) σ
  | .lconst n => rec k (pc + len) ls (.long (Int64.ofNat (n : Nat)) :: st) σ
  | .aconst_null => rec k (pc + len) ls (.null :: st) σ
  | .iload i => (match ls[i]? with | some (some (.int x)) => rec k (pc + len) ls (.int x :: st) σ | _ => none)
  | .iload_n i => (match ls[(i : Nat)]? with | some (some (.int x)) => rec k (pc + len) ls (.int x :: st) σ | _ => none)
  | .lload_n i => (match ls[(i : Nat)]? with | some (some (.long x)) => rec k (pc + len) ls (.long x :: st) σ | _ => none)
  | .aload i => (match ls[i]? with | some (some v) => (match rOf v with | some r => rec k (pc + len) ls (va_rf r :: st) σ | none => none) | _ => none)
  | .aload_n i => (match ls[(i : Nat)]? with | some (some v) => (match rOf v with | some r => rec k (pc + len) ls (va_rf r :: st) σ | none => none) | _ => none)
  | .istore i => (match st with | .int x :: r => if i < ls.length then rec k (pc + len) (stl ls i (.int x)) r σ else none | _ => none)
  | .istore_n i => (match st with | .int x :: r => if (i : Nat) < ls.length then rec k (pc + len) (stl ls i (.int x)) r σ else none | _ => none)
  | .lstore_n i => (match st with | .long x :: r => if (i : Nat) + 1 < ls.length then rec k (pc + len) (stl2 ls i (.long x)) r σ else none | _ => none)
  | .astore i => (match st with | v :: r => (match rOf v with | some q => if i < ls.length then rec k (pc + len) (stl ls i (va_rf q)) r σ else none | none => none) | _ => none)
  | .astore_n i => (match st with | v :: r => (match rOf v with | some q => if (i : Nat) < ls.length then rec k (pc + len) (stl ls i (va_rf q)) r σ else none | none => none) | _ => none)
  | .iinc i n => if i < ls.length then (match ls[i]? with | some (some (.int x)) => rec k (pc + len) (stl ls i (.int (x + Int32.ofInt n))) st σ | _ => none) else none
  | .iadd => (match st with | .int y :: .int x :: r => rec k (pc + len) ls (.int (x + y) :: r) σ | _ => none)
  | .isub => (match st with | .int y :: .int x :: r => rec k (pc + len) ls (.int (x - y) :: r) σ | _ => none)
  | .imul => (match st with | .int y :: .int x :: r => rec k (pc + len) ls (.int (x * y) :: r) σ | _ => none)
  | .iand => (match st with | .int y :: .int x :: r => rec k (pc + len) ls (.int (x &&& y) :: r) σ | _ => none)
  | .idiv => (match st with | .int y :: .int x :: r => if y = 0 then none else rec k (pc + len) ls (.int (x / y) :: r) σ | _ => none)
  | .irem => (match st with | .int y :: .int x :: r => if y = 0 then none else rec k (pc + len) ls (.int (x - x / y * y) :: r) σ | _ => none)
  | .ishr => (match st with | .int y :: .int x :: r => rec k (pc + len) ls (.int (x >>> (y &&& 31)) :: r) σ | _ => none)
  | .iushr => (match st with | .int y :: .int x :: r => rec k (pc + len) ls (.int (x.toUInt32 >>> (y.toUInt32 &&& Int32.toUInt32 31)).toInt32 :: r) σ | _ => none)
  | .ldiv => (match st with | .long y :: .long x :: r => if y = 0 then none else rec k (pc + len) ls (.long (x / y) :: r) σ | _ => none)
  | .lrem => (match st with | .long y :: .long x :: r => if y = 0 then none else rec k (pc + len) ls (.long (x - x / y * y) :: r) σ | _ => none)
  | .lcmp => (match st with | .long y :: .long x :: r => rec k (pc + len) ls (.int (lg_cmp x y) :: r) σ | _ => none)
  | .l2i => (match st with | .long x :: r => rec k (pc + len) ls (.int x.toInt32 :: r) σ | _ => none)
  | .i2c => (match st with | .int x :: r => rec k (pc + len) ls (.int (x.toUInt32 % 65536).toInt32 :: r) σ | _ => none)
  | .dup => (match st with | v :: r => if v.category = 1 then rec k (pc + len) ls (v :: v :: r) σ else none | _ => none)
  | .dup_x1 => (match st with | v :: u :: r => if v.category = 1 ∧ u.category = 1 then rec k (pc + len) ls (v :: u :: v :: r) σ else none | _ => none)
  | .dup2 => (match st with | v :: u :: r => if v.category = 1 ∧ u.category = 1 then rec k (pc + len) ls (v :: u :: v :: u :: r) σ else none | _ => none)
  | .pop => (match st with | v :: r => if v.category = 1 then rec k (pc + len) ls r σ else none | _ => none)
  | .goto off => (match jmp pc off with | some t => rec k t ls st σ | none => none)
  | .ifCond c off => (match st, jmp pc off with | .int x :: r, some t => if cnd c x 0 = true then rec k t ls r σ else rec k (pc + len) ls r σ | _, _ => none)
  | .if_icmp c off => (match st, jmp pc off with | .int y :: .int x :: r, some t => if cnd c x y = true then rec k t ls r σ else rec k (pc + len) ls r σ | _, _ => none)
  | .ifnull off => (match st with | .ref _ :: r => rec k (pc + len) ls r σ | .null :: r => (match jmp pc off with | some t => rec k t ls r σ | none => none) | _ => none)
  | .if_acmp c off => (match st, jmp pc off with
    | v :: u :: r, some t => (match rOf u, rOf v with
      | some x, some y => (match c with
        | .eq => if x = y then rec k t ls r σ else rec k (pc + len) ls r σ
        | .ne => if x = y then rec k (pc + len) ls r σ else rec k t ls r σ)
      | _, _ => none)
    | _, _ => none)
  | .getfield i => getX (fun s => rec k (pc + len) ls s σ) k st σ i
  | .putfield i => putX (fun s τ => rec k (pc + len) ls s τ) k st σ i
  | .getstatic i => (match sR (mO k) i with | some j => (match stO g j with | some v => rec k (pc + len) ls (v :: st) σ | none => none) | none => none)
  | .iaload => (match st with | .int j :: .ref a :: r => if (zK σ a = 101 ∨ zK σ a = 1002) ∧ ¬ j < 0 ∧ j.toNatClampNeg < zL σ a then rec k (pc + len) ls (.int (zI σ a j.toNatClampNeg) :: r) σ else none | _ => none)
  | .caload => (match st with | .int j :: .ref a :: r => if zK σ a = 102 ∧ ¬ j < 0 ∧ j.toNatClampNeg < zL σ a then rec k (pc + len) ls (.int (zI σ a j.toNatClampNeg) :: r) σ else none | _ => none)
  | .baload => (match st with | .int j :: .ref a :: r => if zK σ a = 1001 ∧ ¬ j < 0 ∧ j.toNatClampNeg < zL σ a then rec k (pc + len) ls (.int (zI σ a j.toNatClampNeg) :: r) σ else none | _ => none)
  | .aaload => (match st with | .int j :: .ref a :: r => if (zK σ a = 103 ∨ zK σ a = 104) ∧ ¬ j < 0 ∧ j.toNatClampNeg < zL σ a then rec k (pc + len) ls (va_rf (zP σ a j.toNatClampNeg) :: r) σ else none | _ => none)
  | .iastore => (match st with | .int x :: .int j :: .ref a :: r => if zK σ a = 101 ∧ ¬ j < 0 ∧ j.toNatClampNeg < zL σ a then rec k (pc + len) ls r (stI σ a j.toNatClampNeg x) else none | _ => none)
  | .castore => (match st with | .int x :: .int j :: .ref a :: r => if zK σ a = 102 ∧ ¬ j < 0 ∧ j.toNatClampNeg < zL σ a then rec k (pc + len) ls r (stI σ a j.toNatClampNeg (vp_nar .char x)) else none | _ => none)
  | .aastore => (match st with | .ref y :: .int j :: .ref a :: r => if ((zK σ a = 103 ∧ zK σ y = 7) ∨ (zK σ a = 104 ∧ okP σ (some y) = true)) ∧ ¬ j < 0 ∧ j.toNatClampNeg < zL σ a then rec k (pc + len) ls r (stP σ a j.toNatClampNeg (some y)) else none | _ => none)
  | .arraylength => (match st with | .ref a :: r => if (101 ≤ zK σ a ∧ zK σ a ≤ 104) ∨ zK σ a = 1001 ∨ zK σ a = 1003 then rec k (pc + len) ls (.int (Int32.ofNat (zL σ a)) :: r) σ else none | _ => none)
  | .new i => (match kR (mO k) i with | some c => if c ≤ 8 ∧ zN σ + 1 ≤ C ∧ zS σ + fN c ≤ S then rec k (pc + len) ls (.ref (zN σ) :: st) (alO σ (c + 1) (fN c)) else none | none => none)
  | .newarray t => (match st with
    | .int n :: r => if ¬ n < 0 ∧ n.toNatClampNeg ≤ 100000 ∧ zN σ + 1 ≤ C ∧ zS σ + n.toNatClampNeg ≤ S then
        (match t with
          | .int => rec k (pc + len) ls (.ref (zN σ) :: r) (alA σ 101 n.toNatClampNeg)
          | .char => rec k (pc + len) ls (.ref (zN σ) :: r) (alA σ 102 n.toNatClampNeg)
          | _ => none)
      else none
    | _ => none)
  | .anewarray i => (match kR (mO k) i, st with
    | some c, .int n :: r => if (c = 6 ∨ c = 104) ∧ ¬ n < 0 ∧ n.toNatClampNeg ≤ 100000 ∧ zN σ + 1 ≤ C ∧ zS σ + n.toNatClampNeg ≤ S then rec k (pc + len) ls (.ref (zN σ) :: r) (alA σ (if c = 6 then 103 else 104) n.toNatClampNeg) else none
    | _, _ => none)
  | .checkcast i => (match kR (mO k) i, st with
    | some c, .ref a :: r => if (c ≤ 8 ∧ zK σ a = c + 1) ∨ (c = 204 ∧ zK σ a = 104) then rec k (pc + len) ls (.ref a :: r) σ else none
    | _, _ => none)
  | .ldc i => (match lS (mO k) i with
    | some j => rec k (pc + len) ls (.ref (g (100 + j)) :: st) σ
    | none => if mO k = 14 ∧ i = 110 then rec k (pc + len) ls (.ref (g 7) :: st) σ else if mO k = 16 ∧ i = 200 then rec k (pc + len) ls (.int 2147483639 :: st) σ else none)
  | .ldc2_w i => (match lL (mO k) i with | some v => rec k (pc + len) ls (.long v :: st) σ | none => none)
  | .invokevirtual i => calX g rec k pc len ls st σ i 0
  | .invokespecial i => calX g rec k pc len ls st σ i 1
  | .invokestatic i => calX g rec k pc len ls st σ i 2
  | .ireturn => (match st with | [.int x] => if nOK (mR k) x = true then some (.inl (some (.int x)), σ) else none | _ => none)
  | .areturn => (match st with | [v] => (match rOf v with | some q => if aOK (mR k) = true then some (.inl (some (va_rf q)), σ) else none | none => none) | _ => none)
  | .return_ => (match st with | [] => if mR k = none then some (.inl none, σ) else none | _ => none)
  | _ => none
def ilen : Instr → Nat
  | .bipush _ | .iload _ | .aload _ | .istore _ | .astore _ | .ldc _ | .newarray _ => 2
  | .sipush _ | .iinc _ _ | .goto _ | .ifCond _ _ | .if_icmp _ _ | .ifnull _ | .if_acmp _ _ | .getfield _ | .putfield _ | .getstatic _ | .new _ | .anewarray _ | .checkcast _ | .ldc2_w _ | .invokevirtual _ | .invokespecial _ | .invokestatic _ => 3
  | _ => 1
def stp (g : Nat → Nat) (C S : Nat) (rec : Nat → Nat → LV → List Value → PS → Option (Rs × PS)) (k pc : Nat) (ls : LV) (st : List Value) (σ : PS) : Option (Rs × PS) :=
  match tR k pc with
  | some j => if st.length ≤ 4 ∧ 6 ≤ mF k ∧ 90 ≤ mW k ∧ zN σ + 1 ≤ C ∧ zS σ + 6 ≤ S then some (.inr j, σ) else none
  | none =>
    match decode (mB k) pc with
    | .ok (i, len) => if len = ilen i then ex g C S rec k pc (ilen i) ls st σ i else none
    | .error _ => none
/-- the machine: so many steps deep -/
def run (g : Nat → Nat) (C S : Nat) : Nat → Nat → Nat → LV → List Value → PS → Option (Rs × PS)
  | 0, _, _, _, _, _ => none
  | f + 1, k, pc, ls, st, σ => stp g C S (run g C S f) k pc ls st σ
