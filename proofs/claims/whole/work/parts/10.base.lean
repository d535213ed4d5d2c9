/-! ## rows for what the equations come to -/
theorem gd_t {c : Prop} [Decidable c] {k : Option jO} (h : c) : gd c k = k := if_pos h
theorem gd_T {k : Option jO} : gd True k = k := rfl
theorem bI_r (x : Int) (μ : jM) (k : Int → jM → Option jO) : bI (rI x μ) k = k x μ := rfl
theorem bL_r (x : Int) (μ : jM) (k : Int → jM → Option jO) : bL (rL x μ) k = k x μ := rfl
theorem bV_r (μ : jM) (k : jM → Option jO) : bV (rV μ) k = k μ := rfl
theorem w_id {x : Int} (h1 : -2147483648 ≤ x) (h2 : x ≤ 2147483647) : w32 x = x := o_bm32 ⟨h1, h2⟩
theorem w64_id {x : Int} (h1 : -9223372036854775808 ≤ x) (h2 : x ≤ 9223372036854775807) : w64 x = x := o_bm64 ⟨h1, h2⟩
theorem w_s (k : Nat) (h : k < 2147483647) : w32 ((k : Int) + 1) = ((k + 1 : Nat) : Int) := by
  rw [w_id (by omega) (by omega)]
  rfl
theorem jup_r (μ : jM) (p : Nat) (i v : Int) : jup μ p i v p i = v := if_pos ⟨rfl, rfl⟩
theorem jup_n {μ : jM} {p q : Nat} {i j v : Int} (h : q ≠ p) : jup μ p i v q j = μ q j := if_neg (fun z => h z.1)
theorem jup_m {μ : jM} {p q : Nat} {i j v : Int} (h : j ≠ i) : jup μ p i v q j = μ q j := if_neg (fun z => h z.2)
/-- a loop that counts up: each step leaves the value -/
theorem lp_up {α : Type} (f : Nat → α) (n : Nat) (h : ∀ k, k < n → f k = f (k + 1)) : ∀ k, k ≤ n → f k = f n := by
  intro k hk
  have key : ∀ j, k + j ≤ n → f k = f (k + j) := by
    intro j
    induction j with
    | zero => exact fun _ => rfl
    | succ j ih => exact fun hj => (ih (by omega)).trans (h (k + j) (by omega))
  have h2 := key (n - k) (by omega)
  rwa [Nat.add_sub_cancel' hk] at h2
theorem lp_0 {α : Type} (f : Nat → α) (n : Nat) (h : ∀ k, k < n → f k = f (k + 1)) : f 0 = f n := lp_up f n h 0 (Nat.zero_le n)
/-- a loop that counts down -/
theorem lp_dn {α : Type} (f : Nat → α) (n : Nat) (h : ∀ k, k < n → f (k + 1) = f k) : f n = f 0 := by
  induction n with
  | zero => rfl
  | succ n ih => exact (h n (Nat.lt_succ_self n)).trans (ih (fun k hk => h k (Nat.lt_succ_of_lt hk)))
/-- is there one below n; the first one, n if there is none -/
def anb (P : Nat → Bool) : Nat → Bool
  | 0 => false
  | n + 1 => anb P n || P n
theorem anb_iff {P : Nat → Bool} : ∀ {n : Nat}, anb P n = true ↔ ∃ i, i < n ∧ P i = true
  | 0 => ⟨fun h => (by cases h), fun ⟨i, h, _⟩ => (by omega)⟩
  | n + 1 => by
    show (anb P n || P n) = true ↔ _
    rw [Bool.or_eq_true, anb_iff]
    constructor
    · rintro (⟨i, h1, h2⟩ | h)
      · exact ⟨i, by omega, h2⟩
      · exact ⟨n, by omega, h⟩
    · rintro ⟨i, h1, h2⟩
      by_cases h : i = n
      · subst h
        exact Or.inr h2
      · exact Or.inl ⟨i, by omega, h2⟩
theorem anb_f {P : Nat → Bool} {n : Nat} (h : anb P n = false) {i : Nat} (hi : i < n) : P i = false := by
  cases hp : P i with
  | false => rfl
  | true =>
    rw [anb_iff.mpr ⟨i, hi, hp⟩] at h
    cases h
def fs (P : Nat → Bool) : Nat → Nat
  | 0 => 0
  | n + 1 => if fs P n < n then fs P n else if P n then n else n + 1
theorem fs_spec (P : Nat → Bool) : ∀ n : Nat, fs P n ≤ n ∧ (∀ j, j < fs P n → P j = false) ∧ (fs P n < n → P (fs P n) = true)
  | 0 => ⟨Nat.le_refl 0, fun j h => absurd h (Nat.not_lt_zero j), fun h => absurd h (Nat.lt_irrefl 0)⟩
  | n + 1 => by
    obtain ⟨h1, h2, h3⟩ := fs_spec P n
    unfold fs
    by_cases h : fs P n < n
    · rw [if_pos h]
      exact ⟨by omega, h2, fun _ => h3 h⟩
    · rw [if_neg h]
      have e : fs P n = n := by omega
      cases hp : P n with
      | true =>
        rw [if_pos rfl]
        exact ⟨by omega, fun j hj => h2 j (by omega), fun _ => hp⟩
      | false =>
        rw [if_neg (by decide)]
        refine ⟨by omega, fun j hj => ?_, fun hz => by omega⟩
        by_cases hj2 : j = n
        · rw [hj2, hp]
        · exact h2 j (by omega)
theorem fs_anb (P : Nat → Bool) (n : Nat) : (fs P n < n) ↔ anb P n = true := by
  obtain ⟨h1, h2, h3⟩ := fs_spec P n
  constructor
  · intro h
    exact anb_iff.mpr ⟨_, h, h3 h⟩
  · intro h
    obtain ⟨i, hi, hp⟩ := anb_iff.mp h
    by_cases hz : fs P n < n
    · exact hz
    · have := h2 i (by omega)
      rw [hp] at this
      cases this
/-- a loop that stops early comes to the first place of a kind -/
theorem lp_fs {α : Type} (f : Nat → α) (P : Nat → Bool) (n : Nat) (h : ∀ k, k < n → P k = false → (∀ j, j < k → P j = false) → f k = f (k + 1)) : f 0 = f (fs P n) := by
  obtain ⟨h1, h2, -⟩ := fs_spec P n
  exact lp_0 f (fs P n) (fun k hk => h k (by omega) (h2 k hk) (fun j hj => h2 j (by omega)))
theorem cd_t {p q : Nat} {x y : Option jO} (h : p = q) : (bif Nat.beq p q then x else y) = x := by
  subst h
  rw [Nat.beq_refl]
  rfl
theorem cd_a {p q r : Nat} {x y : Option jO} (h : p = q) (h2 : r = q) : (bif Nat.beq p q && Nat.beq r q then x else y) = x := by
  subst h
  subst h2
  rw [Nat.beq_refl]
  rfl
/-! ## bits -/
theorem i32_nat {z : Int32} {r : Nat} (h : z.toBitVec.toNat = r) (hr : r < 2147483648) : z.toInt = r := by
  show z.toBitVec.toInt = r
  rw [BitVec.toInt_eq_toNat_cond, h]
  split
  · rfl
  · omega
theorem i32_of (n : Nat) (h : n < 4294967296) : (Int32.ofInt (n : Int)).toBitVec.toNat = n := by
  show (BitVec.ofInt 32 (n : Int)).toNat = n
  rw [BitVec.toNat_ofInt]
  omega
/-- a and not b -/
def nd (a b : Nat) : Nat := a ^^^ (a &&& b)
theorem nd_tb (a b k : Nat) : (nd a b).testBit k = (a.testBit k && !b.testBit k) := by
  unfold nd
  rw [Nat.testBit_xor, Nat.testBit_and]
  cases a.testBit k <;> cases b.testBit k <;> rfl
theorem nd_le (a b : Nat) : nd a b ≤ a := by
  apply Nat.le_of_testBit
  intro k
  rw [nd_tb]
  cases a.testBit k <;> cases b.testBit k <;> simp
/-- all bits but b's, as an int -/
def cp (b : Nat) : Int := -(b : Int) - 1
theorem and_nn (a b : Nat) (ha : a < 2147483648) (hb : b < 2147483648) : jand (a : Int) (b : Int) = ((a &&& b : Nat) : Int) := by
  refine i32_nat ?_ (Nat.lt_of_le_of_lt Nat.and_le_left ha)
  rw [Int32.toBitVec_and, BitVec.toNat_and, i32_of a (by omega), i32_of b (by omega)]
theorem or_nn (a b : Nat) (ha : a < 2147483648) (hb : b < 2147483648) : jor (a : Int) (b : Int) = ((a ||| b : Nat) : Int) := by
  refine i32_nat ?_ (Nat.or_lt_two_pow (n := 31) ha hb)
  rw [Int32.toBitVec_or, BitVec.toNat_or, i32_of a (by omega), i32_of b (by omega)]
theorem i32_cp (b : Nat) (hb : b < 2147483648) : (Int32.ofInt (cp b)).toBitVec = ~~~ (Int32.ofInt (b : Int)).toBitVec := by
  show BitVec.ofInt 32 (cp b) = ~~~ (BitVec.ofInt 32 (b : Int))
  apply BitVec.eq_of_toNat_eq
  rw [BitVec.toNat_not, BitVec.toNat_ofInt, BitVec.toNat_ofInt]
  unfold cp
  omega
theorem xor_m1 (b : Nat) (hb : b < 2147483648) : jxor (b : Int) (-1) = cp b := by
  have e : Int32.ofInt (b : Int) ^^^ Int32.ofInt (-1) = Int32.ofInt (cp b) := by
    apply Int32.toBitVec_inj.mp
    rw [i32_cp b hb, Int32.toBitVec_xor]
    show _ ^^^ BitVec.ofInt 32 (-1) = _
    rw [show BitVec.ofInt 32 (-1) = BitVec.allOnes 32 from rfl, BitVec.xor_allOnes]
  unfold jxor
  rw [e, o_id]
  unfold cp j32
  omega
theorem nd_mod (a b : Nat) (ha : a < 2147483648) (hb : b < 2147483648) : a &&& (4294967296 - 1 - b) = nd a b := by
  apply Nat.eq_of_testBit_eq
  intro k
  rw [Nat.testBit_and, nd_tb, show 4294967296 - 1 - b = 2 ^ 32 - (b + 1) by omega, Nat.testBit_two_pow_sub_succ (by omega)]
  by_cases hk : k < 32
  · simp [hk]
  · have : a.testBit k = false := Nat.testBit_lt_two_pow (Nat.lt_of_lt_of_le ha (Nat.le_trans (by decide) (Nat.pow_le_pow_right (by decide) (Nat.le_of_not_lt hk))))
    simp [this]
theorem and_nc (a b : Nat) (ha : a < 2147483648) (hb : b < 2147483648) : jand (a : Int) (cp b) = ((nd a b : Nat) : Int) := by
  refine i32_nat ?_ (Nat.lt_of_le_of_lt (nd_le a b) ha)
  rw [Int32.toBitVec_and, BitVec.toNat_and, i32_of a (by omega), i32_cp b hb, BitVec.toNat_not, i32_of b (by omega)]
  exact nd_mod a b ha hb
theorem and_cn (a b : Nat) (ha : a < 2147483648) (hb : b < 2147483648) : jand (cp b) (a : Int) = ((nd a b : Nat) : Int) := by
  rw [← and_nc a b ha hb]
  unfold jand
  rw [Int32.and_comm]
theorem and_cc (a b : Nat) (ha : a < 2147483648) (hb : b < 2147483648) : jand (cp a) (cp b) = cp (a ||| b) := by
  have hor := Nat.or_lt_two_pow (n := 31) ha hb
  have e : Int32.ofInt (cp a) &&& Int32.ofInt (cp b) = Int32.ofInt (cp (a ||| b)) := by
    apply Int32.toBitVec_inj.mp
    rw [Int32.toBitVec_and, i32_cp a ha, i32_cp b hb, i32_cp (a ||| b) hor, ← BitVec.not_or]
    congr 1
    apply BitVec.eq_of_toNat_eq
    rw [BitVec.toNat_or, i32_of a (by omega), i32_of b (by omega), i32_of (a ||| b) (by omega)]
  unfold jand
  rw [e, o_id]
  unfold cp j32
  omega
theorem sh31 (k : Nat) (hk : k < 32) : ((Int32.ofInt (k : Int) &&& 31).toBitVec.smod 32).toNat = k := by
  have h : ∀ k, k < 32 → ((Int32.ofInt ((k : Nat) : Int) &&& 31).toBitVec.smod 32).toNat = k := by decide +kernel
  exact h k hk
theorem shl_n (a k : Nat) (hk : k < 31) (h : a * 2 ^ k < 2147483648) : jshl (a : Int) (k : Int) = ((a * 2 ^ k : Nat) : Int) := by
  have ha : a < 2147483648 := Nat.lt_of_le_of_lt (Nat.le_mul_of_pos_right a (Nat.two_pow_pos k)) h
  refine i32_nat ?_ h
  rw [pk_shl _ _ k (sh31 k (by omega)), i32_of a (by omega)]
  exact Nat.mod_eq_of_lt (by omega)
theorem shl_1 (k : Nat) (hk : k < 31) : jshl 1 (k : Int) = ((2 ^ k : Nat) : Int) := by
  have h := shl_n 1 k hk (by rw [Nat.one_mul]; exact Nat.lt_of_lt_of_le (Nat.pow_lt_pow_right (by decide) hk) (by decide))
  rw [Nat.one_mul] at h
  exact h
theorem shr_n (a k : Nat) (hk : k < 32) (ha : a < 2147483648) : jshr (a : Int) (k : Int) = ((a / 2 ^ k : Nat) : Int) := by
  unfold jshr
  rw [pk_shr _ _ k (sh31 k hk), o_id ⟨by omega, by omega⟩, Int.shiftRight_eq_div_pow]
  rfl
theorem tb_1 (a k : Nat) (hk : k < 32) (ha : a < 2147483648) : jand (jshr (a : Int) (k : Int)) 1 = if a.testBit k then 1 else 0 := by
  have hd : a / 2 ^ k < 2147483648 := Nat.lt_of_le_of_lt (Nat.div_le_self _ _) ha
  rw [shr_n a k hk ha]
  have h := and_nn (a / 2 ^ k) 1 hd (by decide)
  rw [show ((1 : Nat) : Int) = 1 from rfl] at h
  rw [h, Nat.and_one_is_mod, Nat.testBit_eq_decide_div_mod_eq]
  by_cases hz : a / 2 ^ k % 2 = 1
  · rw [hz, if_pos (by simpa using hz)]
    rfl
  · have hz2 : a / 2 ^ k % 2 = 0 := by omega
    rw [hz2, if_neg (by simpa using hz)]
    rfl
/-- the bits below n of which P says yes -/
def bm (P : Nat → Bool) : Nat → Nat
  | 0 => 0
  | k + 1 => bm P k ||| (if P k then 2 ^ k else 0)
theorem bm_tb (P : Nat → Bool) : ∀ n i : Nat, (bm P n).testBit i = (decide (i < n) && P i)
  | 0, i => by simp [bm]
  | n + 1, i => by
    unfold bm
    rw [Nat.testBit_or, bm_tb P n i]
    cases hP : P n with
    | true =>
      rw [if_pos rfl, Nat.testBit_two_pow]
      by_cases h : n = i
      · subst h
        simp [hP]
      · have e : decide (i < n + 1) = decide (i < n) := by
          apply decide_eq_decide.mpr
          omega
        simp [h, e]
    | false =>
      rw [if_neg (by decide), Nat.zero_testBit, Bool.or_false]
      by_cases h : n = i
      · subst h
        simp [hP]
      · have e : decide (i < n + 1) = decide (i < n) := by
          apply decide_eq_decide.mpr
          omega
        rw [e]
theorem bm_lt (P : Nat → Bool) (n : Nat) : bm P n < 2 ^ n := by
  apply Nat.lt_pow_two_of_testBit
  intro i hi
  rw [bm_tb]
  simp [Nat.not_lt.mpr hi]
theorem bm_lt' (P : Nat → Bool) {n m : Nat} (h : n ≤ m) : bm P n < 2 ^ m := Nat.lt_of_lt_of_le (bm_lt P n) (Nat.pow_le_pow_right (by decide) h)
theorem bm_cg {P Q : Nat → Bool} {n : Nat} (h : ∀ i, i < n → P i = Q i) : bm P n = bm Q n := by
  apply Nat.eq_of_testBit_eq
  intro i
  rw [bm_tb, bm_tb]
  by_cases hi : i < n
  · rw [h i hi]
  · simp [hi]
theorem p2_le {i n : Nat} (h : i ≤ n) : 2 ^ i ≤ 2 ^ n := Nat.pow_le_pow_right (by decide) h
theorem bm_or (P : Nat → Bool) (n : Nat) (h : n < 30) : jor (bm P n : Nat) (if P n then ((2 ^ n : Nat) : Int) else 0) = ((bm P (n + 1) : Nat) : Int) := by
  have hb := bm_lt' P (show n ≤ 29 by omega)
  have h2 := p2_le (show n ≤ 29 by omega)
  have e : (if P n then ((2 ^ n : Nat) : Int) else 0) = (((if P n then 2 ^ n else 0) : Nat) : Int) := by
    split <;> rfl
  rw [e, or_nn _ _ (by omega) (by split <;> omega)]
  rfl
theorem bm_0 (P : Nat → Bool) : bm P 0 = 0 := rfl
/-- how many bits -/
def pcb : Nat → Nat → Nat
  | 0, _ => 0
  | k + 1, n => pcb k n + (if n.testBit k then 1 else 0)
def pc (n : Nat) : Nat := pcb 12 n
def bcx (a0 : Int) : Int := (jand (w32 ((w32 ((jand (w32 ((w32 ((jand (w32 (a0 - (jand (jushr a0 1) 1431655765))) 858993459) + (jand (jushr (w32 (a0 - (jand (jushr a0 1) 1431655765))) 2) 858993459))) + (jushr (w32 ((jand (w32 (a0 - (jand (jushr a0 1) 1431655765))) 858993459) + (jand (jushr (w32 (a0 - (jand (jushr a0 1) 1431655765))) 2) 858993459))) 4))) 252645135) + (jushr (jand (w32 ((w32 ((jand (w32 (a0 - (jand (jushr a0 1) 1431655765))) 858993459) + (jand (jushr (w32 (a0 - (jand (jushr a0 1) 1431655765))) 2) 858993459))) + (jushr (w32 ((jand (w32 (a0 - (jand (jushr a0 1) 1431655765))) 858993459) + (jand (jushr (w32 (a0 - (jand (jushr a0 1) 1431655765))) 2) 858993459))) 4))) 252645135) 8))) + (jushr (w32 ((jand (w32 ((w32 ((jand (w32 (a0 - (jand (jushr a0 1) 1431655765))) 858993459) + (jand (jushr (w32 (a0 - (jand (jushr a0 1) 1431655765))) 2) 858993459))) + (jushr (w32 ((jand (w32 (a0 - (jand (jushr a0 1) 1431655765))) 858993459) + (jand (jushr (w32 (a0 - (jand (jushr a0 1) 1431655765))) 2) 858993459))) 4))) 252645135) + (jushr (jand (w32 ((w32 ((jand (w32 (a0 - (jand (jushr a0 1) 1431655765))) 858993459) + (jand (jushr (w32 (a0 - (jand (jushr a0 1) 1431655765))) 2) 858993459))) + (jushr (w32 ((jand (w32 (a0 - (jand (jushr a0 1) 1431655765))) 858993459) + (jand (jushr (w32 (a0 - (jand (jushr a0 1) 1431655765))) 2) 858993459))) 4))) 252645135) 8))) 16))) 63)
theorem c_bcx : ∀ n, n < 2048 → bcx ((n : Nat) : Int) = ((pc n : Nat) : Int) := by decide +kernel
theorem c_bc (d : Nat) (μ : jM) (n : Nat) (h : n < 2048) : CL (d + 1) 0 [jI (n : Int)] μ = rI ((pc n : Nat) : Int) μ := by
  rw [e_bitCount, ← c_bcx n h]
  rfl
