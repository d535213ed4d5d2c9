/-! ## cells filled from the front -/
def jpre (μ : jM) (p : Nat) (g : Nat → Int) (i : Nat) : jM := jfill μ p (fun j => if 0 ≤ j ∧ j < (i : Int) then g j.toNat else μ p j)
theorem jpre_ne {μ : jM} {p q : Nat} {g : Nat → Int} {i : Nat} (h : q ≠ p) : jpre μ p g i q = μ q := jfill_ne h
theorem jpre_lo {μ : jM} {p : Nat} {g : Nat → Int} {i j : Nat} (h : j < i) : jpre μ p g i p (j : Int) = g j := by
  unfold jpre
  rw [jfill_eq]
  show (if 0 ≤ (j : Int) ∧ (j : Int) < (i : Int) then g (j : Int).toNat else _) = _
  rw [if_pos (by omega), Int.toNat_natCast]
theorem jpre_hi {μ : jM} {p : Nat} {g : Nat → Int} {i : Nat} {j : Int} (h : (i : Int) ≤ j) : jpre μ p g i p j = μ p j := by
  unfold jpre
  rw [jfill_eq]
  show (if 0 ≤ j ∧ j < (i : Int) then _ else _) = _
  rw [if_neg (by omega)]
theorem jpre_0 (μ : jM) (p : Nat) (g : Nat → Int) : jpre μ p g 0 = μ := by
  funext q j
  by_cases h : q = p
  · subst h
    unfold jpre
    rw [jfill_eq]
    show (if 0 ≤ j ∧ j < ((0 : Nat) : Int) then _ else _) = _
    rw [if_neg (by omega)]
  · rw [jpre_ne h]
theorem jpre_s (μ : jM) (p : Nat) (g : Nat → Int) (i : Nat) {v : Int} (hv : v = g i) : jup (jpre μ p g i) p i v = jpre μ p g (i + 1) := by
  subst hv
  funext q j
  by_cases h : q = p
  · subst h
    rw [jup_eq]
    show (if j = (i : Int) then g i else jpre μ q g i q j) = _
    by_cases hj : j = (i : Int)
    · rw [if_pos hj, hj, jpre_lo (Nat.lt_succ_self i)]
    · rw [if_neg hj]
      by_cases h2 : 0 ≤ j ∧ j < (i : Int)
      · obtain ⟨m, rfl⟩ := Int.eq_ofNat_of_zero_le h2.1
        rw [jpre_lo (by omega), jpre_lo (by omega)]
      · unfold jpre
        rw [jfill_eq, jfill_eq]
        show (if 0 ≤ j ∧ j < (i : Int) then _ else _) = if 0 ≤ j ∧ j < ((i + 1 : Nat) : Int) then _ else _
        rw [if_neg h2, if_neg (by omega)]
  · rw [jup_ne h, jpre_ne h, jpre_ne h]
theorem jup_jup (μ : jM) (p : Nat) (i a b : Int) : jup (jup μ p i a) p i b = jup μ p i b := by
  funext q j
  unfold jup
  by_cases h : q = p ∧ j = i
  · rw [if_pos h, if_pos h]
  · rw [if_neg h, if_neg h, if_neg h]
theorem jup_pre {μ : jM} {p q : Nat} {g : Nat → Int} {i : Nat} {j v : Int} (h : p ≠ q) : jup (jpre μ p g i) q j v = jpre (jup μ q j v) p g i := by
  funext r m
  by_cases hr : r = p
  · subst hr
    rw [jup_ne h]
    unfold jpre
    rw [jfill_eq, jfill_eq, jup_ne h]
  · rw [jpre_ne hr]
    by_cases h2 : r = q
    · subst h2
      rw [jup_eq, jup_eq, jpre_ne hr]
    · rw [jup_ne h2, jup_ne h2, jpre_ne hr]
theorem jup_id {μ : jM} {p : Nat} {i v : Int} (h : μ p i = v) : jup μ p i v = μ := by
  funext q j
  unfold jup
  by_cases hc : q = p ∧ j = i
  · rw [if_pos hc, hc.1, hc.2, h]
  · rw [if_neg hc]
/-- all of an array -/
theorem c_fill (d : Nat) (μ : jM) (p n : Nat) (v : Int) (hk : KD p = 20) (hn : LN p = n) : CL (d + 1) 1 [jR p, jI v] μ = rV (jpre μ p (fun _ => v) n) := by
  have hb := (LN_ok p).2
  rw [e_fill, hk]
  show EV _ _ _ _ _ _ = _
  rw [hn] at hb ⊢
  refine Eq.trans ?_ ((lp_0 (fun i : Nat => EV d T_fill 1 [some (jR p), some (jI v), some (jI i), some (jI n)] [] (jpre μ p (fun _ => v) i)) n (fun i hi => ?_)).trans ?_)
  · rw [jpre_0]
    rfl
  · rw [e_fill_1, if_pos (by omega), cd_t hk, hn, gd_t (by omega), w_s _ (by omega), jpre_s μ p (fun _ => v) i rfl]
  · rw [e_fill_1, if_neg (by omega)]
/-- bits of an int that may be negative -/
theorem tb_c (c x : Nat) (hx : x < 31) (hc : c < 2147483648) : jand (jshr (cp c) (x : Int)) 1 = if c.testBit x then 0 else 1 := by
  have h1 : (Int32.ofInt (cp c) >>> (Int32.ofInt (x : Int) &&& 31)) = ~~~ (Int32.ofInt (c : Int) >>> (Int32.ofInt (x : Int) &&& 31)) := by
    apply Int32.toInt_inj.mp
    rw [pk_shr _ _ x (sh31 x (by omega)), Int32.toInt_not, pk_shr _ _ x (sh31 x (by omega)), o_id ⟨by unfold cp; omega, by unfold cp; omega⟩, o_id ⟨by omega, by omega⟩, Int.shiftRight_eq_div_pow, Int.shiftRight_eq_div_pow]
    unfold cp
    have hp : (0 : Int) < ((2 ^ x : Nat) : Int) := by exact_mod_cast Nat.two_pow_pos x
    generalize ((2 ^ x : Nat) : Int) = D at hp
    have e1 : D * ((c : Int) / D) + (c : Int) % D = c := by first | exact Int.mul_ediv_add_emod _ _ | exact Int.mul_ediv_add_emod' _ _ | exact Int.ediv_mul_add_emod _ _
    have e2 := Int.emod_nonneg (c : Int) (by omega : D ≠ 0)
    have e3 := Int.emod_lt_of_pos (c : Int) hp
    have key : -(c : Int) - 1 = D * (-((c : Int) / D) - 1) + (D - 1 - (c : Int) % D) := by
      rw [Int.mul_sub, Int.mul_neg, Int.mul_one]
      omega
    have e4 : (-(c : Int) - 1) / D = -((c : Int) / D) - 1 := by
      rw [key, Int.add_comm, Int.add_mul_ediv_left _ _ (by omega : D ≠ 0), Int.ediv_eq_zero_of_lt (by omega) (by omega)]
      omega
    have e5 : 0 ≤ (c : Int) / D := Int.ediv_nonneg (by omega) (by omega)
    have e6 : (c : Int) / D ≤ c := Int.ediv_le_self _ (by omega)
    rw [e4]
    exact (o_bm32 ⟨by omega, by omega⟩).symm
  unfold jand jshr
  rw [Int32.ofInt_toInt, h1]
  have h2 := tb_1 c x (by omega) hc
  unfold jand jshr at h2
  rw [Int32.ofInt_toInt] at h2
  generalize (Int32.ofInt (c : Int) >>> (Int32.ofInt (x : Int) &&& 31)) = z at h2
  have h3 : (~~~z &&& Int32.ofInt 1).toInt = 1 - (z &&& Int32.ofInt 1).toInt := by
    have hz : ∀ y : Int32, (y &&& Int32.ofInt 1).toInt = if y.toBitVec.getLsbD 0 then 1 else 0 := by
      intro y
      have e : (y &&& Int32.ofInt 1).toBitVec.toNat = if y.toBitVec.getLsbD 0 then 1 else 0 := by
        rw [Int32.toBitVec_and, BitVec.toNat_and]
        show y.toBitVec.toNat &&& 1 = _
        rw [Nat.and_one_is_mod, BitVec.getLsbD, Nat.testBit_zero]
        by_cases h : y.toBitVec.toNat % 2 = 1
        · rw [h]
          rfl
        · have : y.toBitVec.toNat % 2 = 0 := by omega
          rw [this]
          rfl
      have := i32_nat e (by split <;> omega)
      rw [this]
      split <;> rfl
    rw [hz, hz, Int32.toBitVec_not, BitVec.getLsbD_not]
    cases z.toBitVec.getLsbD 0 <;> rfl
  rw [h3, h2]
  split <;> rfl
/-! ## how it goes on: states are a set and its last one (10: none) -/
/-- all STUFFS of a set are there -/
def stk (k : Kt) (w : Lw) (s : Nat) : Bool := !anb (fun u => decide (lmo w u < pc (khs k u &&& s))) 8
/-- behind which ones one can be -/
def nr (k : Kt) (w : Lw) (x : Nat) : Nat := if lhe w = 2 then (if (khot k).testBit x then nd (ksh k (lsh w) x ||| 1024) (khot k) else (ksh k (lsh w) x ||| 1024) &&& (khot k ||| 1024)) else ksh k (lsh w) x ||| 1024
/-- the heat of a set and one more, by heat 1 -/
def hcd (k : Kt) (w : Lw) (s x : Nat) : Bool := !(lhe w == 1 && (s &&& khot k) != 0) || (khot k).testBit x
theorem anb_cg {P Q : Nat → Bool} {n : Nat} (h : ∀ i, i < n → P i = Q i) : anb P n = anb Q n := by
  induction n with
  | zero => rfl
  | succ n ih =>
    show (anb P n || P n) = (anb Q n || Q n)
    rw [ih (fun i hi => h i (by omega)), h n (by omega)]
theorem anb_or {P Q : Nat → Bool} (n : Nat) : anb (fun i => P i || Q i) n = (anb P n || anb Q n) := by
  induction n with
  | zero => rfl
  | succ n ih =>
    show (anb (fun i => P i || Q i) n || (P n || Q n)) = ((anb P n || P n) || (anb Q n || Q n))
    rw [ih]
    cases anb P n <;> cases anb Q n <;> cases P n <;> cases Q n <;> rfl
theorem ksh_sym {k : Kt} {share x l : Nat} (hx : x < kn k) (hl : l < kn k) : (ksh k share x).testBit l = (ksh k share l).testBit x := by
  unfold ksh
  rw [bm_tb, bm_tb, Nat.and_comm (kst k l)]
  by_cases h : l = x
  · subst h
    rfl
  · have e1 : (l != x) = true := by simpa using h
    have e2 : (x != l) = true := by simpa using Ne.symm h
    rw [e1, e2]
    simp [hx, hl]
theorem may_eq {k : Kt} (hk : Kok k) (w : Lw) {s l x : Nat} (hs : s < 2 ^ kn k) (hl : l = 10 ∨ l < kn k ∧ s.testBit l = true) (hx : x < kn k) : may k w s l x = (!s.testBit x && hcd k w s x && stk k w (s ||| 2 ^ x) && (nr k w x).testBit l) := by
  have h10 := hk.1
  have hkh : khot k < 2 ^ 10 := bm_lt' _ h10
  have h1024 : ∀ i, (1024 : Nat).testBit i = decide (i = 10) := by
    intro i
    have := Nat.testBit_two_pow (n := 10) (m := i)
    rw [show (1024 : Nat) = 2 ^ 10 from rfl, this]
    simp [eq_comm]
  unfold may rfs
  cases hb : s.testBit x with
  | true => rfl
  | false =>
    have estk : stk k w (s ||| 2 ^ x) = !(anb (fun u => decide (lti w < kus k s x u)) 8 || anb (fun u => decide (lst w u < kus k s x u)) 8) := by
      unfold stk
      rw [← anb_or]
      congr 1
      apply anb_cg
      intro u _
      unfold lmo kus
      by_cases h1 : lti w < pc (khs k u &&& (s ||| 2 ^ x))
      · by_cases h2 : lst w u < pc (khs k u &&& (s ||| 2 ^ x))
        · simp [h1, h2]; omega
        · simp [h1, h2]; omega
      · by_cases h2 : lst w u < pc (khs k u &&& (s ||| 2 ^ x))
        · simp [h1, h2]; omega
        · simp [h1, h2]; omega
    rw [estk]
    have hl10 : l ≤ 10 := by omega
    have eshare : (l ≠ 10 ∧ (ksh k (lsh w) l).testBit x = false) ↔ (ksh k (lsh w) x ||| 1024).testBit l = false := by
      rw [Nat.testBit_or, h1024]
      rcases hl with rfl | ⟨hl, hl2⟩
      · simp
      · rw [ksh_sym hl hx]
        have : l ≠ 10 := by omega
        simp [this]
    have enr : (nr k w x).testBit l = ((ksh k (lsh w) x ||| 1024).testBit l && !(lhe w == 2 && l != 10 && ((khot k).testBit l == (khot k).testBit x))) := by
      unfold nr
      by_cases he : lhe w = 2
      · rw [if_pos he, he]
        cases hhx : (khot k).testBit x with
        | true =>
          rw [if_pos rfl, nd_tb]
          by_cases hl9 : l = 10
          · subst hl9
            rw [tb_hi hkh (Nat.le_refl 10)]
            simp
          · have : (l != 10) = true := by simpa using hl9
            rw [this]
            cases (khot k).testBit l <;> simp
        | false =>
          rw [if_neg (by decide), Nat.testBit_and, Nat.testBit_or (khot k), h1024]
          by_cases hl9 : l = 10
          · subst hl9
            simp
          · have : (l != 10) = true := by simpa using hl9
            rw [this]
            cases (khot k).testBit l <;> simp [hl9]
      · rw [if_neg he]
        have : (lhe w == 2) = false := by simpa using he
        rw [this]
        simp
    rw [enr]
    by_cases hsh : (ksh k (lsh w) x ||| 1024).testBit l = false
    · rw [hsh, if_neg (by decide), if_pos (eshare.mpr hsh)]
      simp
    · have hsh2 : (ksh k (lsh w) x ||| 1024).testBit l = true := by
        cases h : (ksh k (lsh w) x ||| 1024).testBit l with
        | true => rfl
        | false => exact absurd h hsh
      rw [hsh2, if_neg (by decide), if_neg (fun z => hsh (eshare.mp z))]
      have ehc : (!(lag k w s l x)) = (hcd k w s x && !(lhe w == 2 && l != 10 && ((khot k).testBit l == (khot k).testBit x))) := by
        unfold lag hcd
        by_cases he : lhe w = 1
        · rw [if_pos he, he]
          cases (khot k).testBit x <;> cases (s &&& khot k) != 0 <;> simp
        · rw [if_neg he]
          have : (lhe w == 1) = false := by simpa using he
          rw [this]
          simp
      have e2 := ehc
      cases hlag : lag k w s l x with
      | true =>
        rw [hlag] at ehc
        rw [if_pos rfl]
        have : (hcd k w s x && !(lhe w == 2 && l != 10 && ((khot k).testBit l == (khot k).testBit x))) = false := ehc.symm
        cases h1 : hcd k w s x with
        | false => rfl
        | true =>
          rw [h1] at this
          simp only [Bool.true_and] at this
          rw [this]
          simp
      | false =>
        rw [hlag] at ehc
        rw [if_neg (by decide)]
        have h3 : (hcd k w s x && !(lhe w == 2 && l != 10 && ((khot k).testBit l == (khot k).testBit x))) = true := ehc.symm
        rw [Bool.and_eq_true] at h3
        rw [h3.1, h3.2]
        cases anb (fun u => decide (lti w < kus k s x u)) 8 with
        | true => rfl
        | false => cases anb (fun u => decide (lst w u < kus k s x u)) 8 <;> rfl
