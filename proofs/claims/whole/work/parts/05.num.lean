def j32 (x : Int) : Prop := -2147483648 ≤ x ∧ x ≤ 2147483647
def j64 (x : Int) : Prop := -9223372036854775808 ≤ x ∧ x ≤ 9223372036854775807
theorem o_bm32 {x : Int} (h : j32 x) : x.bmod 4294967296 = x := by
  obtain ⟨h1, h2⟩ := h
  rw [Int.bmod_def]
  split <;> omega
theorem o_bm64 {x : Int} (h : j64 x) : x.bmod 18446744073709551616 = x := by
  obtain ⟨h1, h2⟩ := h
  rw [Int.bmod_def]
  split <;> omega
theorem o_w32r (x : Int) : j32 (w32 x) := by
  unfold w32 j32
  rw [Int.bmod_def]
  split <;> omega
theorem o_w64r (x : Int) : j64 (w64 x) := by
  unfold w64 j64
  rw [Int.bmod_def]
  split <;> omega
theorem o_ti (x : Int) : (Int32.ofInt x).toInt = w32 x := by
  rw [Int32.toInt_ofInt]
  rfl
theorem o_tl (x : Int) : (Int64.ofInt x).toInt = w64 x := by
  rw [Int64.toInt_ofInt]
  rfl
theorem o_id {x : Int} (h : j32 x) : (Int32.ofInt x).toInt = x := (o_ti x).trans (o_bm32 h)
theorem o_idl {x : Int} (h : j64 x) : (Int64.ofInt x).toInt = x := (o_tl x).trans (o_bm64 h)
theorem o_r32 (z : Int32) : j32 z.toInt := by
  have h1 := Int32.le_toInt z
  have h2 := Int32.toInt_lt z
  unfold j32
  omega
theorem o_w (x : Int) : Int32.ofInt (w32 x) = Int32.ofInt x := by
  rw [← o_ti, Int32.ofInt_toInt]
theorem o_wl (x : Int) : Int64.ofInt (w64 x) = Int64.ofInt x := by
  rw [← o_tl, Int64.ofInt_toInt]
theorem o_add (x y : Int) : Int32.ofInt x + Int32.ofInt y = Int32.ofInt (w32 (x + y)) := by rw [o_w, Int32.ofInt_add]
theorem o_sub (x y : Int) : Int32.ofInt x - Int32.ofInt y = Int32.ofInt (w32 (x - y)) := by rw [o_w, Int32.ofInt_sub]
theorem o_mul (x y : Int) : Int32.ofInt x * Int32.ofInt y = Int32.ofInt (w32 (x * y)) := by rw [o_w, Int32.ofInt_mul]
theorem o_neg (x : Int) : -Int32.ofInt x = Int32.ofInt (w32 (-x)) := by rw [o_w, Int32.ofInt_neg]
theorem o_addl (x y : Int) : Int64.ofInt x + Int64.ofInt y = Int64.ofInt (w64 (x + y)) := by rw [o_wl, Int64.ofInt_add]
theorem o_t (z : Int32) : Int32.ofInt z.toInt = z := Int32.ofInt_toInt z
theorem o_lt {x y : Int} (hx : j32 x) (hy : j32 y) : Int32.ofInt x < Int32.ofInt y ↔ x < y := by rw [Int32.lt_iff_toInt_lt, o_id hx, o_id hy]
theorem o_le {x y : Int} (hx : j32 x) (hy : j32 y) : Int32.ofInt x ≤ Int32.ofInt y ↔ x ≤ y := by rw [Int32.le_iff_toInt_le, o_id hx, o_id hy]
theorem o_eq {x y : Int} (hx : j32 x) (hy : j32 y) : Int32.ofInt x = Int32.ofInt y ↔ x = y := by
  rw [← Int32.toInt_inj, o_id hx, o_id hy]
theorem o_ltl {x y : Int} (hx : j64 x) (hy : j64 y) : Int64.ofInt x < Int64.ofInt y ↔ x < y := by rw [Int64.lt_iff_toInt_lt, o_idl hx, o_idl hy]
theorem o_eql {x y : Int} (hx : j64 x) (hy : j64 y) : Int64.ofInt x = Int64.ofInt y ↔ x = y := by
  rw [← Int64.toInt_inj, o_idl hx, o_idl hy]
theorem o_cmp {x y : Int} (hx : j64 x) (hy : j64 y) : lg_cmp (Int64.ofInt x) (Int64.ofInt y) = Int32.ofInt (jcmp x y) := by
  unfold lg_cmp jcmp
  simp only [o_ltl hy hx, o_eql hx hy]
  split
  · rfl
  · split
    · rfl
    · rfl
theorem o_cmpr (x y : Int) : j32 (jcmp x y) := by
  unfold jcmp j32
  split
  · omega
  · split <;> omega
theorem o_i2l {x : Int} (h : j32 x) : (Int32.ofInt x).toInt64 = Int64.ofInt x := by
  apply Int64.toInt_inj.mp
  rw [Int32.toInt_toInt64, o_id h, o_idl]
  unfold j32 at h
  unfold j64
  omega
theorem o_z : (0 : Int32) = Int32.ofInt 0 := rfl
theorem o_z32 : j32 0 := by unfold j32; omega
/-- an index in range -/
theorem o_in {i n : Int} (hi : j32 i) (h : 0 ≤ i ∧ i < n) : vp_in (Int32.ofInt i) n.toNat := by
  rw [vp_in_iff, o_id hi]
  omega
theorem o_cl {i : Int} (hi : j32 i) : (Int32.ofInt i).toNatClampNeg = i.toNat := by
  show (Int32.ofInt i).toInt.toNat = i.toNat
  rw [o_id hi]
