/-! the abstract machine and the machine: values, locals, cells -/
def in32 (x : Int) : Prop := -2147483648 ≤ x ∧ x < 2147483648
def in64 (x : Int) : Prop := -9223372036854775808 ≤ x ∧ x < 9223372036854775808
theorem in32_of (x : Int32) : in32 x.toInt := ⟨by have := x.le_toInt; simpa using this, by have := x.toInt_lt; simpa using this⟩
theorem in64_of (x : Int64) : in64 x.toInt := ⟨by have := x.le_toInt; simpa using this, by have := x.toInt_lt; simpa using this⟩
theorem toInt32 {x : Int} (h : in32 x) : (Int32.ofInt x).toInt = x := by
  rw [Int32.toInt_ofInt]
  exact Int.bmod_eq_of_le (by simpa [Int32.size] using h.1) (by have := h.2; simpa [Int32.size] using this)
theorem toInt64 {x : Int} (h : in64 x) : (Int64.ofInt x).toInt = x := by
  rw [Int64.toInt_ofInt]
  exact Int.bmod_eq_of_le (by simpa [Int64.size] using h.1) (by have := h.2; simpa [Int64.size] using this)
theorem in32_w32 (x : Int) : in32 (w32 x) := by unfold in32 w32; omega
theorem in64_w64 (x : Int) : in64 (w64 x) := by unfold in64 w64; omega
theorem of_w32 (x : Int) : Int32.ofInt (w32 x) = Int32.ofInt x := by
  apply Int32.toInt_inj.mp
  rw [toInt32 (in32_w32 x), Int32.toInt_ofInt]
  unfold w32
  simp only [Int32.size, Int.bmod]
  omega
theorem of_w64 (x : Int) : Int64.ofInt (w64 x) = Int64.ofInt x := by
  apply Int64.toInt_inj.mp
  rw [toInt64 (in64_w64 x), Int64.toInt_ofInt]
  unfold w64
  simp only [Int64.size, Int.bmod]
  omega
theorem add_w32 (x y : Int) : Int32.ofInt x + Int32.ofInt y = Int32.ofInt (w32 (x + y)) := by rw [of_w32, Int32.ofInt_add]
theorem sub_w32 (x y : Int) : Int32.ofInt x - Int32.ofInt y = Int32.ofInt (w32 (x - y)) := by rw [of_w32, Int32.ofInt_sub]
theorem mul_w32 (x y : Int) : Int32.ofInt x * Int32.ofInt y = Int32.ofInt (w32 (x * y)) := by rw [of_w32, Int32.ofInt_mul]
theorem add_w64 (x y : Int) : Int64.ofInt x + Int64.ofInt y = Int64.ofInt (w64 (x + y)) := by rw [of_w64, Int64.ofInt_add]
theorem sub_w64 (x y : Int) : Int64.ofInt x - Int64.ofInt y = Int64.ofInt (w64 (x - y)) := by rw [of_w64, Int64.ofInt_sub]
theorem mul_w64 (x y : Int) : Int64.ofInt x * Int64.ofInt y = Int64.ofInt (w64 (x * y)) := by rw [of_w64, Int64.ofInt_mul]
theorem div_w32 {x y : Int} (hx : in32 x) (hy : in32 y) : Int32.ofInt x / Int32.ofInt y = Int32.ofInt (w32 (Int.tdiv x y)) := by
  apply Int32.toInt_inj.mp
  rw [Int32.toInt_div, toInt32 hx, toInt32 hy, of_w32, Int32.toInt_ofInt]
theorem div_w64 {x y : Int} (hx : in64 x) (hy : in64 y) : Int64.ofInt x / Int64.ofInt y = Int64.ofInt (w64 (Int.tdiv x y)) := by
  apply Int64.toInt_inj.mp
  rw [Int64.toInt_div, toInt64 hx, toInt64 hy, of_w64, Int64.toInt_ofInt]
theorem rem_i32 {x y : Int} (hx : in32 x) (hy : in32 y) : Int32.ofInt x - Int32.ofInt x / Int32.ofInt y * Int32.ofInt y = Int32.ofInt (Int.tmod x y) := by
  rw [irem_eq_mod]
  apply Int32.toInt_inj.mp
  have h := Int32.toInt_mod (Int32.ofInt x) (Int32.ofInt y)
  rw [toInt32 hx, toInt32 hy] at h
  rw [h, Int32.toInt_ofInt]
  have h2 := in32_of (Int32.ofInt x % Int32.ofInt y)
  rw [h] at h2
  exact (Int.bmod_eq_of_le (by simpa [Int32.size] using h2.1) (by have := h2.2; simpa [Int32.size] using this)).symm
theorem in32_tmod {x y : Int} (hx : in32 x) (hy : in32 y) : in32 (Int.tmod x y) := by
  have h := Int32.toInt_mod (Int32.ofInt x) (Int32.ofInt y)
  rw [toInt32 hx, toInt32 hy] at h
  rw [← h]
  exact in32_of _
theorem in64_tmod {x y : Int} (hx : in64 x) (hy : in64 y) : in64 (Int.tmod x y) := by
  have h := Int64.toInt_mod (Int64.ofInt x) (Int64.ofInt y)
  rw [toInt64 hx, toInt64 hy] at h
  rw [← h]
  exact in64_of _
theorem rem_i64 {x y : Int} (hx : in64 x) (hy : in64 y) : Int64.ofInt x - Int64.ofInt x / Int64.ofInt y * Int64.ofInt y = Int64.ofInt (Int.tmod x y) := by
  have e : ∀ x y : Int64, x - x / y * y = x % y := by
    intro x y
    apply Int64.toInt_inj.mp
    have h1 := Int64.le_toInt (x % y)
    have h2 := Int64.toInt_lt (x % y)
    rw [Int64.toInt_sub, Int64.toInt_mul, Int64.toInt_div, Int.bmod_mul_bmod, Int.sub_bmod_bmod, Int.mul_comm (x.toInt.tdiv y.toInt), ← Int.tmod_def, ← Int64.toInt_mod]
    exact Int.bmod_eq_of_le_mul_two (by omega) (by omega)
  rw [e]
  apply Int64.toInt_inj.mp
  have h := Int64.toInt_mod (Int64.ofInt x) (Int64.ofInt y)
  rw [toInt64 hx, toInt64 hy] at h
  rw [h, toInt64 (in64_tmod hx hy)]
theorem of_toInt32 (x : Int32) : Int32.ofInt x.toInt = x := Int32.ofInt_toInt x
theorem of_toInt64 (x : Int64) : Int64.ofInt x.toInt = x := Int64.ofInt_toInt x
theorem lt_i32 {x y : Int} (hx : in32 x) (hy : in32 y) : Int32.ofInt x < Int32.ofInt y ↔ x < y := by rw [Int32.lt_iff_toInt_lt, toInt32 hx, toInt32 hy]
theorem le_i32 {x y : Int} (hx : in32 x) (hy : in32 y) : Int32.ofInt x ≤ Int32.ofInt y ↔ x ≤ y := by rw [Int32.le_iff_toInt_le, toInt32 hx, toInt32 hy]
theorem eq_i32 {x y : Int} (hx : in32 x) (hy : in32 y) : Int32.ofInt x = Int32.ofInt y ↔ x = y := by rw [← Int32.toInt_inj, toInt32 hx, toInt32 hy]
theorem eq_i64 {x y : Int} (hx : in64 x) (hy : in64 y) : Int64.ofInt x = Int64.ofInt y ↔ x = y := by rw [← Int64.toInt_inj, toInt64 hx, toInt64 hy]
theorem in32_0 : in32 0 := ⟨by omega, by omega⟩
theorem in64_0 : in64 0 := ⟨by omega, by omega⟩
theorem zero_i32 : (0 : Int32) = Int32.ofInt 0 := rfl
theorem zero_i64 : (0 : Int64) = Int64.ofInt 0 := rfl
theorem i2l_i {x : Int} (hx : in32 x) : (Int32.ofInt x).toInt64 = Int64.ofInt x := by
  apply Int64.toInt_inj.mp
  rw [Int32.toInt_toInt64, toInt32 hx, toInt64 ⟨by have := hx.1; omega, by have := hx.2; omega⟩]
theorem in32_64 {x : Int} (hx : in32 x) : in64 x := ⟨by have := hx.1; omega, by have := hx.2; omega⟩
theorem l2i_i (x : Int) : (Int64.ofInt x).toInt32 = Int32.ofInt (w32 x) := by
  rw [of_w32]
  first | exact Int64.toInt32_ofInt x | simp
theorem cmp_i {x y : Int} (hx : in64 x) (hy : in64 y) : lg_cmp (Int64.ofInt x) (Int64.ofInt y) = Int32.ofInt (lCmp x y) := by
  unfold lg_cmp lCmp
  simp only [gt_iff_lt, Int64.lt_iff_toInt_lt, ← Int64.toInt_inj, toInt64 hx, toInt64 hy]
  by_cases h1 : x < y
  · rw [if_neg (by omega), if_neg (by omega), if_pos h1]; rfl
  · by_cases h2 : x = y
    · rw [if_neg (by omega), if_pos h2, if_neg h1, if_pos h2]; rfl
    · rw [if_pos (by omega), if_neg h1, if_neg h2]; rfl
theorem in32_cmp (x y : Int) : in32 (lCmp x y) := by unfold lCmp in32; split <;> (try split) <;> omega
theorem max_i {x y : Int} (hx : in32 x) (hy : in32 y) : (if Int32.ofInt x < Int32.ofInt y then Int32.ofInt y else Int32.ofInt x) = Int32.ofInt (max x y) := by
  simp only [lt_i32 hx hy]
  split
  · rw [show max x y = y by omega]
  · rw [show max x y = x by omega]
theorem min_i {x y : Int} (hx : in32 x) (hy : in32 y) : (if Int32.ofInt y < Int32.ofInt x then Int32.ofInt y else Int32.ofInt x) = Int32.ofInt (min x y) := by
  simp only [lt_i32 hy hx]
  split
  · rw [show min x y = y by omega]
  · rw [show min x y = x by omega]
theorem in32_max {x y : Int} (hx : in32 x) (hy : in32 y) : in32 (max x y) := by unfold in32 at *; omega
theorem in32_min {x y : Int} (hx : in32 x) (hy : in32 y) : in32 (min x y) := by unfold in32 at *; omega
theorem clamp_i {x : Int} (h0 : 0 ≤ x) (hx : in32 x) : (Int32.ofInt x).toNatClampNeg = x.toNat := by
  show (Int32.ofInt x).toInt.toNat = x.toNat
  rw [toInt32 hx]
theorem vpin_i {x : Int} {n : Nat} (h0 : 0 ≤ x) (h1 : x < n) (hx : in32 x) : vp_in (Int32.ofInt x) n := by
  rw [vp_in_iff, toInt32 hx]
  exact ⟨h0, h1⟩
