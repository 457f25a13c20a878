/-! Int32 by whole numbers: zI k; every comparison of two numbers in range is the one of Int -/
def zI (k : Int) : Int32 := Int32.ofInt k
def inR (k : Int) : Prop := -2147483648 ≤ k ∧ k < 2147483648
theorem zI_toInt {k : Int} (h : inR k) : (zI k).toInt = k := Int32.toInt_ofInt_of_le (by have := h.1; omega) (by have := h.2; omega)
theorem zI_of (x : Int32) : ∃ k : Int, inR k ∧ x = zI k := ⟨x.toInt, ⟨by have := x.le_toInt; omega, by have := x.toInt_lt; omega⟩, (Int32.ofInt_toInt x).symm⟩
theorem zI_add (a b : Int) : zI a + zI b = zI (a + b) := (Int32.ofInt_add a b).symm
theorem zI_sub (a b : Int) : zI a - zI b = zI (a - b) := (Int32.ofInt_sub a b).symm
theorem zI_mul (a b : Int) : zI a * zI b = zI (a * b) := (Int32.ofInt_mul a b).symm
theorem zI_lt {a b : Int} (ha : inR a) (hb : inR b) : zI a < zI b ↔ a < b := by rw [Int32.lt_iff_toInt_lt, zI_toInt ha, zI_toInt hb]
theorem zI_le {a b : Int} (ha : inR a) (hb : inR b) : zI a ≤ zI b ↔ a ≤ b := by rw [Int32.le_iff_toInt_le, zI_toInt ha, zI_toInt hb]
theorem zI_eq {a b : Int} (ha : inR a) (hb : inR b) : zI a = zI b ↔ a = b := by
  constructor
  · intro h
    have h2 := congrArg Int32.toInt h
    rwa [zI_toInt ha, zI_toInt hb] at h2
  · intro h
    rw [h]
theorem zI_cl {k : Int} (h : inR k) : (zI k).toNatClampNeg = k.toNat := Int32.toNatClampNeg_ofInt_of_le (by have := h.1; omega) (by have := h.2; omega)
theorem zI_0 : (0 : Int32) = zI 0 := by decide
theorem inR_0 : inR 0 := by constructor <;> decide
theorem zI_in {k : Int} {n : Nat} (h0 : 0 ≤ k) (h1 : k < n) (hn : n < 2147483648) : vp_in (zI k) n := by
  rw [vp_in_iff, zI_toInt ⟨by omega, by omega⟩]
  exact ⟨h0, h1⟩
theorem zI_nat (n : Nat) : zI (n : Int) = nI n := Int32.ofInt_eq_ofNat
theorem zI_by {n : Int} (h : -128 ≤ n) (h2 : n ≤ 127) : (Int8.ofInt n).toInt32 = zI n := by
  rw [← Int32.ofInt_int8ToInt, Int8.toInt_ofInt_of_le (by omega) (by omega)]
  rfl
theorem zI_sh {n : Int} (h : -32768 ≤ n) (h2 : n ≤ 32767) : (Int16.ofInt n).toInt32 = zI n := by
  rw [← Int32.ofInt_int16ToInt, Int16.toInt_ofInt_of_le (by omega) (by omega)]
  rfl
theorem zI_div {a b : Int} (ha : 0 ≤ a) (ha2 : a < 2147483648) (hb : 0 < b) (hb2 : b < 2147483648) : zI a / zI b = zI (a / b) := by
  obtain ⟨x, rfl⟩ := Int.eq_ofNat_of_zero_le ha
  obtain ⟨y, rfl⟩ := Int.eq_ofNat_of_zero_le (Int.le_of_lt hb)
  rw [zI_nat, zI_nat, pk_div (by omega) (by omega) (by omega), ← zI_nat]
  rfl
theorem zI_rem {a b : Int} (ha : 0 ≤ a) (ha2 : a < 2147483648) (hb : 0 < b) (hb2 : b < 2147483648) : zI a - zI a / zI b * zI b = zI (a % b) := by
  obtain ⟨x, rfl⟩ := Int.eq_ofNat_of_zero_le ha
  obtain ⟨y, rfl⟩ := Int.eq_ofNat_of_zero_le (Int.le_of_lt hb)
  rw [zI_nat, zI_nat, pk_rem (by omega) (by omega) (by omega), ← zI_nat]
  rfl
theorem zI_and255 {a : Int} (ha : 0 ≤ a) (ha2 : a < 2147483648) : zI a &&& zI 255 = zI (a % 256) := by
  obtain ⟨x, rfl⟩ := Int.eq_ofNat_of_zero_le ha
  rw [zI_nat, pk_andN (by omega) 8 (by decide), ← zI_nat]
  rfl
theorem zI_bool {v : Int} (h : v = 0 ∨ v = 1) : vp_nar .boolean (zI v) = zI v := by
  rcases h with rfl | rfl <;> decide
theorem zI_narZ {v : Int} (h : v = 0 ∨ v = 1) : narrow .boolean (.int (zI v)) = .int (zI v) := by
  rcases h with rfl | rfl <;> rfl
