/-! ## the text: signs, both sides -/
theorem ofI (x : Int) : (Int32.ofInt x).toBitVec.toNat = (x % 4294967296).toNat := by
  show (BitVec.ofInt 32 x).toNat = _
  rw [BitVec.toNat_ofInt]
  rfl
theorem and_255 (x : Int) : jand x 255 = x % 256 := by
  have h : jand x 255 = (((x % 256).toNat : Nat) : Int) := by
    refine i32_nat ?_ (by omega)
    rw [Int32.toBitVec_and, BitVec.toNat_and, ofI, ofI, show ((255 : Int) % 4294967296).toNat = 2 ^ 8 - 1 from rfl, Nat.and_two_pow_sub_one_eq_mod]
    omega
  rw [h]
  omega
theorem b8_m (x : Int) : jb8 x = Int.bmod x 256 := by
  unfold jb8
  rw [Int8.toInt_toInt32, Int32.toInt_toInt8]
  show (BitVec.ofInt 32 x).toInt.bmod (2 ^ 8) = _
  rw [BitVec.toInt_ofInt]
  exact Int.bmod_bmod_of_dvd (by decide)
theorem shr_i (v : Int) (h : -2147483648 ≤ v ∧ v ≤ 2147483647) (k : Nat) (hk : k < 32) : jshr v (k : Int) = v / ((2 ^ k : Nat) : Int) := by
  unfold jshr
  rw [pk_shr _ _ k (sh31 k hk), o_id h, Int.shiftRight_eq_div_pow]
/-- the j-th sign that a number is -/
def byt (v : Int) (j : Nat) : Nat := ((v / ((2 ^ (24 - 8 * j) : Nat) : Int)) % 256).toNat
/-- a sign as the reference keeps it -/
def sgb (c : Nat) : Int := if c < 128 then c else (c : Int) - 256
theorem byt_lt (v : Int) (j : Nat) : byt v j < 256 := by
  unfold byt
  omega
theorem b8_byt (v : Int) (h : -2147483648 ≤ v ∧ v ≤ 2147483647) (j : Nat) (hj : j < 4) : jb8 (jb8 (jshr v ((24 - 8 * j : Nat) : Int))) = sgb (byt v j) := by
  have e : ∀ z : Int, Int.bmod z 256 = if z % 256 < 128 then z % 256 else z % 256 - 256 := fun z => by
    rw [Int.bmod_def]
    rfl
  rw [shr_i v h _ (by omega), b8_m, b8_m, Int.bmod_bmod, e]
  unfold sgb byt
  generalize v / ((2 ^ (24 - 8 * j) : Nat) : Int) = z
  by_cases hz : z % 256 < 128
  · rw [if_pos hz, if_pos (by omega)]
    omega
  · rw [if_neg hz, if_neg (by omega)]
    omega
theorem bmt (x : UInt32) : x.toInt32.toInt = Int.bmod (x.toNat : Int) 4294967296 := by
  show x.toBitVec.toInt = Int.bmod (x.toBitVec.toNat : Int) 4294967296
  rw [BitVec.toInt_eq_toNat_bmod]
theorem ush_i (v : Int) (h : -2147483648 ≤ v ∧ v ≤ 2147483647) : ∀ j : Nat, j < 4 → jand (jushr v ((24 - 8 * j : Nat) : Int)) 255 = (byt v j : Nat) := by
  intro j hj
  have sh : ∀ j : Nat, j < 4 → ((Int32.ofInt ((24 - 8 * j : Nat) : Int)).toUInt32 &&& Int32.toUInt32 31).toNat = 24 - 8 * j := by decide +kernel
  have key : (jushr v ((24 - 8 * j : Nat) : Int)) % 256 = ((v % 4294967296) / ((2 ^ (24 - 8 * j) : Nat) : Int)) % 256 := by
    have hb : ((Int32.ofInt v).toUInt32 >>> ((Int32.ofInt ((24 - 8 * j : Nat) : Int)).toUInt32 &&& Int32.toUInt32 31)).toNat = (v % 4294967296).toNat / 2 ^ (24 - 8 * j) := by
      rw [UInt32.toNat_shiftRight, sh j hj, Nat.mod_eq_of_lt (show 24 - 8 * j < 32 by omega), Nat.shiftRight_eq_div_pow]
      congr 1
    have ht : jushr v ((24 - 8 * j : Nat) : Int) = Int.bmod (((v % 4294967296).toNat / 2 ^ (24 - 8 * j) : Nat) : Int) 4294967296 := by
      unfold jushr
      rw [← hb]
      exact bmt _
    rw [ht, show (256 : Int) = ((256 : Nat) : Int) from rfl]
    have e2 : ∀ z : Int, (Int.bmod z 4294967296) % ((256 : Nat) : Int) = z % ((256 : Nat) : Int) := fun z => by
      rw [Int.bmod_def]
      split <;> omega
    rw [e2, Int.natCast_ediv, Int.toNat_of_nonneg (by omega)]
  rw [and_255, key]
  unfold byt
  rcases (show j = 0 ∨ j = 1 ∨ j = 2 ∨ j = 3 by omega) with rfl | rfl | rfl | rfl
  · show (v % 4294967296 / 16777216) % 256 = (((v / 16777216) % 256).toNat : Int)
    omega
  · show (v % 4294967296 / 65536) % 256 = (((v / 65536) % 256).toNat : Int)
    omega
  · show (v % 4294967296 / 256) % 256 = (((v / 256) % 256).toNat : Int)
    omega
  · show (v % 4294967296 / 1) % 256 = (((v / 1) % 256).toNat : Int)
    omega
/-- the text -/
def TC (μ : jM) (t : List Nat) : Prop := t.length ≤ 80 ∧ (∀ c ∈ t, c < 256) ∧ μ 1 1 = (t.length : Int) ∧ ∀ i : Nat, i < t.length → μ 2 (i : Int) = (t.getD i 0 : Int)
def TR (ν : jM) (t : List Nat) : Prop := t.length ≤ 80 ∧ (∀ c ∈ t, c < 256) ∧ ν 69 17 = (t.length : Int) ∧ ∀ i : Nat, i < t.length → ν 80 (i : Int) = sgb (t.getD i 0)
def sgT (t : List Nat) (v : Int) : List Nat := if t.length ≤ 76 then t ++ [byt v 0, byt v 1, byt v 2, byt v 3] else t
def sgA (t : List Nat) : Int := if t.length ≤ 76 then (t.length : Int) + 4 else -1
theorem app4 (t : List Nat) (a b c e : Nat) (i : Nat) : (t ++ [a, b, c, e]).getD i 0 = if i < t.length then t.getD i 0 else if i = t.length then a else if i = t.length + 1 then b else if i = t.length + 2 then c else if i = t.length + 3 then e else 0 := by
  rw [List.getD_eq_getElem?_getD, List.getElem?_append]
  by_cases h : i < t.length
  · rw [if_pos h, if_pos h, List.getD_eq_getElem?_getD]
  · rw [if_neg h, if_neg h]
    obtain ⟨j, rfl⟩ : ∃ j, i = t.length + j := ⟨i - t.length, by omega⟩
    rw [show t.length + j - t.length = j by omega]
    rcases (show j = 0 ∨ j = 1 ∨ j = 2 ∨ j = 3 ∨ 4 ≤ j by omega) with rfl | rfl | rfl | rfl | h4
    · rw [if_pos (by omega)]
      rfl
    · rw [if_neg (by omega), if_pos (by omega)]
      rfl
    · rw [if_neg (by omega), if_neg (by omega), if_pos (by omega)]
      rfl
    · rw [if_neg (by omega), if_neg (by omega), if_neg (by omega), if_pos (by omega)]
      rfl
    · rw [if_neg (by omega), if_neg (by omega), if_neg (by omega), if_neg (by omega), List.getElem?_eq_none (by show [a, b, c, e].length ≤ j; exact h4)]
      rfl
