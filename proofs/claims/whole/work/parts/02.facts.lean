/-! whole numbers and the machine's words -/
def xI (z : Int) : Prop := -2147483648 ≤ z ∧ z < 2147483648
def xL (z : Int) : Prop := -9223372036854775808 ≤ z ∧ z < 9223372036854775808
theorem xI_toInt (x : Int32) : xI x.toInt := ⟨by have := x.le_toInt; simpa using this, by have := x.toInt_lt; simpa using this⟩
theorem xL_toInt (x : Int64) : xL x.toInt := ⟨by have := x.le_toInt; simpa using this, by have := x.toInt_lt; simpa using this⟩
theorem xI_of {z : Int} (h : xI z) : (Int32.ofInt z).toInt = z := Int32.toInt_ofInt_of_le (by have := h.1; omega) (by have := h.2; omega)
theorem xL_of {z : Int} (h : xL z) : (Int64.ofInt z).toInt = z := Int64.toInt_ofInt_of_le (by have := h.1; omega) (by have := h.2; omega)
theorem xI_w (z : Int) : xI (aW z) := by
  have h1 := Int.le_bmod (x := z) (m := 4294967296) (by omega)
  have h2 := Int.bmod_lt (x := z) (m := 4294967296) (by omega)
  unfold aW xI
  omega
theorem xL_w (z : Int) : xL (aWL z) := by
  have h1 := Int.le_bmod (x := z) (m := 18446744073709551616) (by omega)
  have h2 := Int.bmod_lt (x := z) (m := 18446744073709551616) (by omega)
  unfold aWL xL
  omega
theorem xB_w (z : Int) : -128 ≤ aB8 z ∧ aB8 z < 128 := by
  have h1 := Int.le_bmod (x := z) (m := 256) (by omega)
  have h2 := Int.bmod_lt (x := z) (m := 256) (by omega)
  unfold aB8
  omega
theorem xI_b (z : Int) : xI (aB8 z) := by
  have := xB_w z
  unfold xI
  omega
theorem o_w (z : Int) : Int32.ofInt (aW z) = Int32.ofInt z := by
  apply Int32.toInt_inj.mp
  rw [Int32.toInt_ofInt, Int32.toInt_ofInt]
  unfold aW
  exact Int.bmod_bmod
theorem o_wl (z : Int) : Int64.ofInt (aWL z) = Int64.ofInt z := by
  apply Int64.toInt_inj.mp
  rw [Int64.toInt_ofInt, Int64.toInt_ofInt]
  unfold aWL
  exact Int.bmod_bmod
theorem o_add (x y : Int) : Int32.ofInt x + Int32.ofInt y = Int32.ofInt (aW (x + y)) := by rw [o_w, Int32.ofInt_add]
theorem o_sub (x y : Int) : Int32.ofInt x - Int32.ofInt y = Int32.ofInt (aW (x - y)) := by rw [o_w, Int32.ofInt_sub]
theorem o_mul (x y : Int) : Int32.ofInt x * Int32.ofInt y = Int32.ofInt (aW (x * y)) := by rw [o_w, Int32.ofInt_mul]
theorem o_neg (x : Int) : -Int32.ofInt x = Int32.ofInt (aW (-x)) := by rw [o_w, Int32.ofInt_neg]
theorem o_addL (x y : Int) : Int64.ofInt x + Int64.ofInt y = Int64.ofInt (aWL (x + y)) := by rw [o_wl, Int64.ofInt_add]
theorem o_subL (x y : Int) : Int64.ofInt x - Int64.ofInt y = Int64.ofInt (aWL (x - y)) := by rw [o_wl, Int64.ofInt_sub]
theorem o_mulL (x y : Int) : Int64.ofInt x * Int64.ofInt y = Int64.ofInt (aWL (x * y)) := by rw [o_wl, Int64.ofInt_mul]
theorem o_l2i (x : Int) : (Int64.ofInt x).toInt32 = Int32.ofInt (aW x) := by
  rw [o_w]
  apply Int32.toInt_inj.mp
  rw [Int64.toInt_toInt32, Int64.toInt_ofInt, Int32.toInt_ofInt]
  exact Int.bmod_bmod_of_dvd (by decide)
theorem o_i2l {x : Int} (h : xI x) : (Int32.ofInt x).toInt64 = Int64.ofInt x := by
  apply Int64.toInt_inj.mp
  rw [Int32.toInt_toInt64, xI_of h, xL_of (by unfold xI at h; unfold xL; omega)]
theorem o_i2b (x : Int) : (Int32.ofInt x).toInt8.toInt32 = Int32.ofInt (aB8 x) := by
  apply Int32.toInt_inj.mp
  rw [Int8.toInt_toInt32, Int32.toInt_toInt8, xI_of (xI_b x), Int32.toInt_ofInt]
  exact Int.bmod_bmod_of_dvd (by decide)
theorem o_back (x : Int32) : Int32.ofInt x.toInt = x := Int32.ofInt_toInt x
theorem o_backL (x : Int64) : Int64.ofInt x.toInt = x := Int64.ofInt_toInt x
theorem o_lt {x y : Int} (hx : xI x) (hy : xI y) : Int32.ofInt x < Int32.ofInt y ↔ x < y := by rw [Int32.lt_iff_toInt_lt, xI_of hx, xI_of hy]
theorem o_le {x y : Int} (hx : xI x) (hy : xI y) : Int32.ofInt x ≤ Int32.ofInt y ↔ x ≤ y := by rw [Int32.le_iff_toInt_le, xI_of hx, xI_of hy]
theorem o_eq {x y : Int} (hx : xI x) (hy : xI y) : Int32.ofInt x = Int32.ofInt y ↔ x = y := by rw [← Int32.toInt_inj, xI_of hx, xI_of hy]
theorem o_0 : (0 : Int32) = Int32.ofInt 0 := rfl
theorem xI_0 : xI 0 := ⟨by omega, by omega⟩
theorem o_lt0 {x : Int} (hx : xI x) : Int32.ofInt x < 0 ↔ x < 0 := by rw [o_0, o_lt hx xI_0]
theorem o_0lt {x : Int} (hx : xI x) : 0 < Int32.ofInt x ↔ 0 < x := by rw [o_0, o_lt xI_0 hx]
theorem o_le0 {x : Int} (hx : xI x) : Int32.ofInt x ≤ 0 ↔ x ≤ 0 := by rw [o_0, o_le hx xI_0]
theorem o_0le {x : Int} (hx : xI x) : 0 ≤ Int32.ofInt x ↔ 0 ≤ x := by rw [o_0, o_le xI_0 hx]
theorem o_eq0 {x : Int} (hx : xI x) : Int32.ofInt x = 0 ↔ x = 0 := by rw [o_0, o_eq hx xI_0]
theorem o_clamp {x : Int} (hx : xI x) : (Int32.ofInt x).toNatClampNeg = x.toNat := by
  show (Int32.ofInt x).toInt.toNat = x.toNat
  rw [xI_of hx]
theorem o_in {x : Int} {N : Nat} (hx : xI x) (h0 : 0 ≤ x) (h : x < N) : vp_in (Int32.ofInt x) N := by
  unfold vp_in
  rw [o_lt0 hx, o_clamp hx]
  omega
theorem o_cmp {x y : Int} (hx : xL x) (hy : xL y) : lg_cmp (Int64.ofInt x) (Int64.ofInt y) = Int32.ofInt (aCmp x y) := by
  have h1 : Int64.ofInt y < Int64.ofInt x ↔ y < x := by rw [Int64.lt_iff_toInt_lt, xL_of hx, xL_of hy]
  have h2 : Int64.ofInt x = Int64.ofInt y ↔ x = y := by rw [← Int64.toInt_inj, xL_of hx, xL_of hy]
  unfold lg_cmp aCmp
  by_cases a : y < x
  · rw [if_pos (h1.mpr a), if_neg (by omega), if_neg (by omega)]; rfl
  · rw [if_neg (fun q => a (h1.mp q))]
    by_cases b : x = y
    · rw [if_pos (h2.mpr b), if_neg (by omega), if_pos b]; rfl
    · rw [if_neg (fun q => b (h2.mp q)), if_pos (by omega)]; rfl
theorem xI_cmp (x y : Int) : xI (aCmp x y) := by
  unfold aCmp xI
  split <;> try split
  all_goals omega
theorem o_nat (n : Nat) : Int32.ofNat n = Int32.ofInt (n : Int) := by
  apply Int32.toInt_inj.mp
  rw [Int32.toInt_ofNat', Int32.toInt_ofInt]
theorem o_iinc (x z : Int) : Int32.ofInt x + Int32.ofInt z = Int32.ofInt (aW (x + z)) := o_add x z
