/-! bits of numbers that are not below 0 -/
theorem bv_nat {x : Nat} (h : x < 2147483648) : (BitVec.ofInt 32 (x : Int)).toNat = x := by
  rw [BitVec.ofInt_natCast, BitVec.toNat_ofNat, Nat.mod_eq_of_lt (by omega)]
theorem bv_int {b : BitVec 32} {x : Nat} (h : b.toNat = x) (hx : x < 2147483648) : b.toInt = x := by
  rw [BitVec.toInt_eq_toNat_of_lt (by rw [h]; omega), h]
theorem bAnd_nat {x y : Nat} (hx : x < 2147483648) (hy : y < 2147483648) : bAnd x y = ((x &&& y : Nat) : Int) := by
  show (BitVec.ofInt 32 x &&& BitVec.ofInt 32 y).toInt = _
  exact bv_int (by rw [BitVec.toNat_and, bv_nat hx, bv_nat hy]) (by have := Nat.and_le_left (n := x) (m := y); omega)
theorem bOr_nat {x y : Nat} (hx : x < 2147483648) (hy : y < 2147483648) : bOr x y = ((x ||| y : Nat) : Int) := by
  show (BitVec.ofInt 32 x ||| BitVec.ofInt 32 y).toInt = _
  exact bv_int (by rw [BitVec.toNat_or, bv_nat hx, bv_nat hy]) (Nat.or_lt_two_pow (n := 31) hx hy)
theorem shamt : ∀ s : Fin 32, ((BitVec.ofNat 32 s.val &&& 31#32).smod 32#32) = BitVec.ofNat 32 s.val := by decide +kernel
theorem bShl_nat {x s : Nat} (hs : s < 32) (hx : x <<< s < 2147483648) (hx2 : x < 2147483648) : bShl x s = ((x <<< s : Nat) : Int) := by
  show (BitVec.ofInt 32 x <<< ((BitVec.ofInt 32 s &&& 31#32).smod 32#32)).toInt = _
  rw [BitVec.ofInt_natCast, BitVec.ofInt_natCast, shamt ⟨s, hs⟩]
  refine bv_int ?_ hx
  show (BitVec.ofNat 32 x <<< (BitVec.ofNat 32 s).toNat).toNat = _
  rw [BitVec.toNat_shiftLeft, BitVec.toNat_ofNat, BitVec.toNat_ofNat, Nat.mod_eq_of_lt (by omega : s < 2 ^ 32), Nat.mod_eq_of_lt (by omega : x < 2 ^ 32), Nat.mod_eq_of_lt (by omega)]
theorem bShr_nat {x s : Nat} (hs : s < 32) (hx : x < 2147483648) : bShr x s = ((x >>> s : Nat) : Int) := by
  show (BitVec.sshiftRight' (BitVec.ofInt 32 x) ((BitVec.ofInt 32 s &&& 31#32).smod 32#32)).toInt = _
  rw [BitVec.ofInt_natCast, BitVec.ofInt_natCast, shamt ⟨s, hs⟩]
  have hm : (BitVec.ofNat 32 x).msb = false := by
    rw [BitVec.msb_eq_false_iff_two_mul_lt, BitVec.toNat_ofNat, Nat.mod_eq_of_lt (by omega : x < 2 ^ 32)]
    omega
  refine bv_int ?_ (by rw [Nat.shiftRight_eq_div_pow]; exact Nat.lt_of_le_of_lt (Nat.div_le_self _ _) hx)
  show ((BitVec.ofNat 32 x).sshiftRight (BitVec.ofNat 32 s).toNat).toNat = _
  rw [BitVec.sshiftRight_eq_of_msb_false hm, BitVec.toNat_ushiftRight, BitVec.toNat_ofNat, BitVec.toNat_ofNat, Nat.mod_eq_of_lt (by omega : s < 2 ^ 32), Nat.mod_eq_of_lt (by omega : x < 2 ^ 32)]
/-- a word of the class's code -/
theorem cw_what {v w : Int} (hv : 0 ≤ v ∧ v < 100000000) (hw : 0 ≤ w ∧ w < 16) : bAnd (16 * v + w) 15 = w := by
  obtain ⟨a, rfl⟩ : ∃ a : Nat, v = a := ⟨v.toNat, by omega⟩
  obtain ⟨b, rfl⟩ : ∃ b : Nat, w = b := ⟨w.toNat, by omega⟩
  rw [show (16 * (a : Int) + b) = ((16 * a + b : Nat) : Int) by omega, show (15 : Int) = ((15 : Nat) : Int) from rfl, bAnd_nat (by omega) (by omega), show 15 = 2 ^ 4 - 1 from rfl, Nat.and_two_pow_sub_one_eq_mod]
  omega
theorem cw_value {v w : Int} (hv : 0 ≤ v ∧ v < 100000000) (hw : 0 ≤ w ∧ w < 16) : bShr (16 * v + w) 4 = v := by
  obtain ⟨a, rfl⟩ : ∃ a : Nat, v = a := ⟨v.toNat, by omega⟩
  obtain ⟨b, rfl⟩ : ∃ b : Nat, w = b := ⟨w.toNat, by omega⟩
  rw [show (16 * (a : Int) + b) = ((16 * a + b : Nat) : Int) by omega, show (4 : Int) = ((4 : Nat) : Int) from rfl, bShr_nat (by omega) (by omega), Nat.shiftRight_eq_div_pow]
  omega
theorem cw_make {v w : Int} (hv : 0 ≤ v ∧ v < 100000000) (hw : 0 ≤ w ∧ w < 16) : bOr (bShl v 4) w = 16 * v + w := by
  obtain ⟨a, rfl⟩ : ∃ a : Nat, v = a := ⟨v.toNat, by omega⟩
  obtain ⟨b, rfl⟩ : ∃ b : Nat, w = b := ⟨w.toNat, by omega⟩
  have h1 : a <<< 4 = 16 * a := by rw [Nat.shiftLeft_eq]; omega
  rw [show (4 : Int) = ((4 : Nat) : Int) from rfl, bShl_nat (by omega) (by omega) (by omega), bOr_nat (by omega) (by omega), ← Nat.shiftLeft_add_eq_or_of_lt (by omega : b < 2 ^ 4), h1]
  omega
/-- a row of bits in one number -/
theorem bit_get {x j : Nat} (hj : j < 31) (hx : x < 2147483648) : bAnd (bShr x j) 1 = if x.testBit j = true then 1 else 0 := by
  have h1 : x >>> j < 2147483648 := by rw [Nat.shiftRight_eq_div_pow]; exact Nat.lt_of_le_of_lt (Nat.div_le_self _ _) hx
  rw [bShr_nat (by omega) hx, show (1 : Int) = ((1 : Nat) : Int) from rfl, bAnd_nat h1 (by omega), Nat.and_one_is_mod, Nat.shiftRight_eq_div_pow]
  rw [Nat.testBit_eq_decide_div_mod_eq]
  by_cases h : x / 2 ^ j % 2 = 1
  · rw [h, decide_eq_true rfl]; rfl
  · rw [decide_eq_false h, if_neg (by decide)]
    have : x / 2 ^ j % 2 = 0 := by omega
    rw [this]
    rfl
theorem bit_set {x j : Nat} (hj : j < 30) (hx : x < 1073741824) : ∃ y : Nat, bOr x (bShl 1 j) = y ∧ y < 1073741824 ∧ ∀ i, y.testBit i = (x.testBit i || decide (i = j)) := by
  have h2 : 2 ^ j ≤ 2 ^ 29 := Nat.pow_le_pow_right (by omega) (by omega)
  have h1 : (1 : Nat) <<< j = 2 ^ j := by rw [Nat.shiftLeft_eq]; omega
  refine ⟨x ||| 2 ^ j, ?_, Nat.or_lt_two_pow (n := 30) hx (by omega), fun i => ?_⟩
  · rw [show (1 : Int) = ((1 : Nat) : Int) from rfl, bShl_nat (by omega) (by omega) (by omega), h1, bOr_nat (by omega) (by omega)]
  · rw [Nat.testBit_or, Nat.testBit_two_pow]
    congr 1
    simp [eq_comm]
