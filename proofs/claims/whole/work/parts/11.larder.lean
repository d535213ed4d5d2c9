/-! ## the kitchen: number of dishes, of guests, stuffs, cost, heat, hours, loved, barred -/
abbrev Kt : Type := Nat × Nat × (Nat → Nat) × (Nat → Nat) × (Nat → Nat) × (Nat → Nat) × (Nat → Nat) × (Nat → Nat)
def kn (k : Kt) : Nat := k.1
def kg (k : Kt) : Nat := k.2.1
def kst (k : Kt) : Nat → Nat := k.2.2.1
def kco (k : Kt) : Nat → Nat := k.2.2.2.1
def khe (k : Kt) : Nat → Nat := k.2.2.2.2.1
def kho (k : Kt) : Nat → Nat := k.2.2.2.2.2.1
def klo (k : Kt) : Nat → Nat := k.2.2.2.2.2.2.1
def kba (k : Kt) : Nat → Nat := k.2.2.2.2.2.2.2
/-- a kitchen as there can be -/
def Kok (k : Kt) : Prop := kn k ≤ 10 ∧ kg k ≤ 6 ∧ (∀ d, d < kn k → 0 < kst k d ∧ kst k d < 256 ∧ kco k d ≤ 99 ∧ khe k d ≤ 1 ∧ kho k d ≤ 9) ∧ (∀ g, g < kg k → klo k g < 256 ∧ kba k g < 256)
def khs (k : Kt) (s : Nat) : Nat := bm (fun d => (kst k d).testBit s) (kn k)
def khot (k : Kt) : Nat := bm (fun d => khe k d == 1) (kn k)
/-- the class's Larder holds a kitchen -/
def KI (μ : jM) (k : Kt) : Prop := Kok k ∧ μ 3 7 = (kn k : Int) ∧ μ 3 8 = (kg k : Int) ∧ (∀ d : Nat, d < kn k → μ 4 d = (kst k d : Int) ∧ μ 5 d = (kco k d : Int) ∧ μ 6 d = (khe k d : Int) ∧ μ 7 d = (kho k d : Int)) ∧ (∀ g : Nat, g < kg k → μ 8 g = (klo k g : Int) ∧ μ 9 g = (kba k g : Int)) ∧ (∀ s : Nat, s < 8 → μ 10 s = (khs k s : Int))
theorem c_X1_hasDish (d : Nat) {μ : jM} {k : Kt} (h : KI μ k) (x : Int) : CL (d + 1) 11 [jR 3, jI x] μ = rI (if 0 ≤ x ∧ x < kn k then 1 else 0) μ := by
  obtain ⟨-, h1, -⟩ := h
  rw [e_X1_hasDish, h1]
  by_cases hx : 0 ≤ x ∧ x < kn k
  · simp (disch := omega) only [bI_r, bV_r, bL_r, gd_T, true_or, or_true, gd_t, if_pos, if_neg, w_id, if_true, if_false]
  · rw [if_neg hx]
    by_cases h0 : x < 0
    · simp (disch := omega) only [bI_r, bV_r, bL_r, gd_T, true_or, or_true, gd_t, if_pos, if_neg, w_id, if_true, if_false]
    · simp (disch := omega) only [bI_r, bV_r, bL_r, gd_T, true_or, or_true, gd_t, if_pos, if_neg, w_id, if_true, if_false]
theorem c_X1_hasGuest (d : Nat) {μ : jM} {k : Kt} (h : KI μ k) (x : Int) : CL (d + 1) 12 [jR 3, jI x] μ = rI (if 0 ≤ x ∧ x < kg k then 1 else 0) μ := by
  obtain ⟨-, -, h1, -⟩ := h
  rw [e_X1_hasGuest, h1]
  by_cases hx : 0 ≤ x ∧ x < kg k
  · simp (disch := omega) only [bI_r, bV_r, bL_r, gd_T, true_or, or_true, gd_t, if_pos, if_neg, w_id, if_true, if_false]
  · rw [if_neg hx]
    by_cases h0 : x < 0
    · simp (disch := omega) only [bI_r, bV_r, bL_r, gd_T, true_or, or_true, gd_t, if_pos, if_neg, w_id, if_true, if_false]
    · simp (disch := omega) only [bI_r, bV_r, bL_r, gd_T, true_or, or_true, gd_t, if_pos, if_neg, w_id, if_true, if_false]
theorem c_X1_all (d : Nat) {μ : jM} {k : Kt} (h : KI μ k) : CL (d + 1) 13 [jR 3] μ = rI ((2 ^ kn k - 1 : Nat) : Int) μ := by
  obtain ⟨⟨hn, -⟩, h1, -⟩ := h
  rw [e_X1_all, h1, shl_1 _ (by omega)]
  have h2 : 2 ^ kn k ≤ 2 ^ 10 := Nat.pow_le_pow_right (by decide) hn
  have h3 := Nat.two_pow_pos (kn k)
  rw [w_id (by omega) (by omega)]
  congr 1
  omega
theorem c_X1_stuffsOf (d : Nat) {μ : jM} {k : Kt} (h : KI μ k) (x : Nat) (hx : x < kn k) : CL (d + 2) 14 [jR 3, jI x] μ = rI (kst k x : Int) μ := by
  have h10 := h.1.1
  rw [e_X1_stuffsOf, c_X1_hasDish _ h]
  simp (disch := omega) only [bI_r, bV_r, bL_r, gd_T, true_or, or_true, gd_t, if_pos, if_neg, w_id, if_true, if_false]
  rw [(h.2.2.2.1 x hx).1]
theorem c_X1_stuffsOf' (d : Nat) {μ : jM} {k : Kt} (h : KI μ k) (x : Int) (hx : ¬ (0 ≤ x ∧ x < kn k)) : CL (d + 2) 14 [jR 3, jI x] μ = rI 0 μ := by
  rw [e_X1_stuffsOf, c_X1_hasDish _ h, if_neg hx]
  simp (disch := omega) only [bI_r, bV_r, bL_r, gd_T, true_or, or_true, gd_t, if_pos, if_neg, w_id, if_true, if_false]
theorem c_X1_costOf (d : Nat) {μ : jM} {k : Kt} (h : KI μ k) (x : Nat) (hx : x < kn k) : CL (d + 2) 15 [jR 3, jI x] μ = rI (kco k x : Int) μ := by
  have h10 := h.1.1
  rw [e_X1_costOf, c_X1_hasDish _ h]
  simp (disch := omega) only [bI_r, bV_r, bL_r, gd_T, true_or, or_true, gd_t, if_pos, if_neg, w_id, if_true, if_false]
  rw [(h.2.2.2.1 x hx).2.1]
theorem c_X1_costOf' (d : Nat) {μ : jM} {k : Kt} (h : KI μ k) (x : Int) (hx : ¬ (0 ≤ x ∧ x < kn k)) : CL (d + 2) 15 [jR 3, jI x] μ = rI 0 μ := by
  rw [e_X1_costOf, c_X1_hasDish _ h, if_neg hx]
  simp (disch := omega) only [bI_r, bV_r, bL_r, gd_T, true_or, or_true, gd_t, if_pos, if_neg, w_id, if_true, if_false]
theorem c_X1_heatOf (d : Nat) {μ : jM} {k : Kt} (h : KI μ k) (x : Nat) (hx : x < kn k) : CL (d + 2) 16 [jR 3, jI x] μ = rI (khe k x : Int) μ := by
  have h10 := h.1.1
  rw [e_X1_heatOf, c_X1_hasDish _ h]
  simp (disch := omega) only [bI_r, bV_r, bL_r, gd_T, true_or, or_true, gd_t, if_pos, if_neg, w_id, if_true, if_false]
  rw [(h.2.2.2.1 x hx).2.2.1]
theorem c_X1_hoursOf (d : Nat) {μ : jM} {k : Kt} (h : KI μ k) (x : Nat) (hx : x < kn k) : CL (d + 2) 17 [jR 3, jI x] μ = rI (kho k x : Int) μ := by
  have h10 := h.1.1
  rw [e_X1_hoursOf, c_X1_hasDish _ h]
  simp (disch := omega) only [bI_r, bV_r, bL_r, gd_T, true_or, or_true, gd_t, if_pos, if_neg, w_id, if_true, if_false]
  rw [(h.2.2.2.1 x hx).2.2.2]
theorem c_X1_lovedBy (d : Nat) {μ : jM} {k : Kt} (h : KI μ k) (x : Nat) (hx : x < kg k) : CL (d + 2) 18 [jR 3, jI x] μ = rI (klo k x : Int) μ := by
  have h10 := h.1.2.1
  rw [e_X1_lovedBy, c_X1_hasGuest _ h]
  simp (disch := omega) only [bI_r, bV_r, bL_r, gd_T, true_or, or_true, gd_t, if_pos, if_neg, w_id, if_true, if_false]
  rw [(h.2.2.2.2.1 x hx).1]
theorem c_X1_barredBy (d : Nat) {μ : jM} {k : Kt} (h : KI μ k) (x : Nat) (hx : x < kg k) : CL (d + 2) 19 [jR 3, jI x] μ = rI (kba k x : Int) μ := by
  have h10 := h.1.2.1
  rw [e_X1_barredBy, c_X1_hasGuest _ h]
  simp (disch := omega) only [bI_r, bV_r, bL_r, gd_T, true_or, or_true, gd_t, if_pos, if_neg, w_id, if_true, if_false]
  rw [(h.2.2.2.2.1 x hx).2]
theorem c_X1_holdersOf (d : Nat) {μ : jM} {k : Kt} (h : KI μ k) (s : Nat) (hs : s < 8) : CL (d + 1) 20 [jR 3, jI s] μ = rI (khs k s : Int) μ := by
  rw [e_X1_holdersOf, h.2.2.2.2.2 s hs]
  simp (disch := omega) only [bI_r, bV_r, bL_r, gd_T, true_or, or_true, gd_t, if_pos, if_neg, w_id, if_true, if_false]
/-- what GUESTS bar -/
def khu (k : Kt) (g x : Nat) : Bool := (kba k g &&& kst k x) != 0
theorem c_X1_isHungry (d : Nat) {μ : jM} {k : Kt} (h : KI μ k) (g x : Nat) (hg : g < kg k) (hx : x < kn k) : CL (d + 3) 26 [jR 3, jI g, jI x] μ = rI (if khu k g x then 1 else 0) μ := by
  have hb := (h.1.2.2.2 g hg).2
  have hs := (h.1.2.2.1 x hx).2.1
  rw [e_X1_isHungry, c_X1_barredBy _ h g hg, bI_r, c_X1_stuffsOf _ h x hx, bI_r, and_nn _ _ (by omega) (by omega)]
  unfold khu
  by_cases hz : kba k g &&& kst k x = 0
  · rw [hz]
    rfl
  · rw [if_neg (by omega)]
    simp [hz, gd]
theorem c_X1_hungryAt (d : Nat) {μ : jM} {k : Kt} (h : KI μ k) (x : Nat) (hx : x < kn k) : CL (d + 4) 27 [jR 3, jI x] μ = rI (bm (fun g => khu k g x) (kg k) : Nat) μ := by
  have h6 := h.1.2.1
  rw [e_X1_hungryAt]
  refine (lp_0 (fun i : Nat => EV (d + 3) T_X1_hungryAt 1 [some (jR 3), some (jI x), some (jI (bm (fun g => khu k g x) i : Nat)), some (jI i)] [] μ) (kg k) (fun i hi => ?_)).trans ?_
  · rw [e_X1_hungryAt_1, h.2.2.1, if_pos (by omega), c_X1_isHungry _ h i x hi hx, bI_r, w_s _ (by omega), ← bm_or _ _ (by omega), shl_1 _ (by omega)]
    cases khu k i x <;> rfl
  · rw [e_X1_hungryAt_1, h.2.2.1, if_neg (by omega)]
theorem c_X1_barredTo (d : Nat) {μ : jM} {k : Kt} (h : KI μ k) (g : Nat) (hg : g < kg k) : CL (d + 4) 28 [jR 3, jI g] μ = rI (bm (fun x => khu k g x) (kn k) : Nat) μ := by
  have h10 := h.1.1
  rw [e_X1_barredTo]
  refine (lp_0 (fun i : Nat => EV (d + 3) T_X1_barredTo 1 [some (jR 3), some (jI g), some (jI (bm (fun x => khu k g x) i : Nat)), some (jI i)] [] μ) (kn k) (fun i hi => ?_)).trans ?_
  · rw [e_X1_barredTo_1, h.2.1, if_pos (by omega), c_X1_isHungry _ h g i hg hi, bI_r, w_s _ (by omega), ← bm_or _ _ (by omega), shl_1 _ (by omega)]
    cases khu k g i <;> rfl
  · rw [e_X1_barredTo_1, h.2.1, if_neg (by omega)]
/-- at which DISHES nobody goes HUNGRY -/
def kfed (k : Kt) (g x : Nat) : Bool := match g with
  | 0 => true
  | g + 1 => kfed k g x && !khu k g x
theorem c_X1_barredToNobody (d : Nat) {μ : jM} {k : Kt} (h : KI μ k) : CL (d + 5) 29 [jR 3] μ = rI (bm (fun x => kfed k (kg k) x) (kn k) : Nat) μ := by
  have h10 := h.1.1
  have h6 := h.1.2.1
  rw [e_X1_barredToNobody, c_X1_all _ h, bI_r]
  have e0 : 2 ^ kn k - 1 = bm (fun x => kfed k 0 x) (kn k) := by
    apply Nat.eq_of_testBit_eq
    intro i
    rw [bm_tb, Nat.testBit_two_pow_sub_one]
    simp [kfed]
  rw [e0]
  refine (lp_0 (fun i : Nat => EV (d + 4) T_X1_barredToNobody 1 [some (jR 3), some (jI (bm (fun x => kfed k i x) (kn k) : Nat)), some (jI i)] [] μ) (kg k) (fun i hi => ?_)).trans ?_
  · rw [e_X1_barredToNobody_1, h.2.2.1, if_pos (by omega), c_X1_barredTo _ h i hi, bI_r, w_s _ (by omega)]
    have b1 := bm_lt' (fun x => khu k i x) h10
    have b2 := bm_lt' (fun x => kfed k i x) h10
    rw [xor_m1 _ (by omega), and_nc _ _ (by omega) (by omega)]
    have e1 : nd (bm (fun x => kfed k i x) (kn k)) (bm (fun x => khu k i x) (kn k)) = bm (fun x => kfed k (i + 1) x) (kn k) := by
      apply Nat.eq_of_testBit_eq
      intro j
      rw [nd_tb, bm_tb, bm_tb, bm_tb]
      show _ = (decide (j < kn k) && (kfed k i j && !khu k i j))
      cases decide (j < kn k) <;> cases kfed k i j <;> cases khu k i j <;> rfl
    rw [e1]
  · rw [e_X1_barredToNobody_1, h.2.2.1, if_neg (by omega)]
theorem c_X1_hotDishes (d : Nat) {μ : jM} {k : Kt} (h : KI μ k) : CL (d + 1) 30 [jR 3] μ = rI (khot k : Nat) μ := by
  have h10 := h.1.1
  rw [e_X1_hotDishes]
  refine (lp_0 (fun i : Nat => EV d T_X1_hotDishes 1 [some (jR 3), some (jI (bm (fun d => khe k d == 1) i : Nat)), some (jI i)] [] μ) (kn k) (fun i hi => ?_)).trans ?_
  · have hh := (h.1.2.2.1 i hi).2.2.2.1
    rw [e_X1_hotDishes_1, h.2.1, if_pos (by omega), gd_t (by omega), w_s _ (by omega), ← bm_or _ _ (by omega), (h.2.2.2.1 i hi).2.2.1]
    have hz : khe k i = 0 ∨ khe k i = 1 := by omega
    rcases hz with hz | hz
    · have e := shl_n 0 i (by omega) (by omega)
      rw [Nat.zero_mul] at e
      rw [hz, e]
      rfl
    · rw [hz, ← shl_1 _ (by omega)]
      rfl
  · rw [e_X1_hotDishes_1, h.2.1, if_neg (by omega)]
    rfl
/-- DISHES with as many of some STUFFS -/
def ksome (k : Kt) (parts share : Nat) : Nat := bm (fun d => decide (share ≤ pc (kst k d &&& parts))) (kn k)
theorem c_X1_holdersOfSome (d : Nat) {μ : jM} {k : Kt} (h : KI μ k) (parts share : Nat) (hp : parts < 256) (hs : share < 100) : CL (d + 2) 31 [jR 3, jI parts, jI share] μ = rI (ksome k parts share : Nat) μ := by
  have h10 := h.1.1
  rw [e_X1_holdersOfSome]
  refine (lp_0 (fun i : Nat => EV (d + 1) T_X1_holdersOfSome 1 [some (jR 3), some (jI parts), some (jI share), some (jI (bm (fun d => decide (share ≤ pc (kst k d &&& parts))) i : Nat)), some (jI i)] [] μ) (kn k) (fun i hi => ?_)).trans ?_
  · have hh := (h.1.2.2.1 i hi).2.1
    have ha := Nat.and_le_left (n := kst k i) (m := parts)
    rw [e_X1_holdersOfSome_1, h.2.1, if_pos (by omega), gd_t (by omega), (h.2.2.2.1 i hi).1, and_nn _ _ (by omega) (by omega), c_bc _ _ _ (by omega), bI_r, w_s _ (by omega), ← bm_or _ _ (by omega), shl_1 _ (by omega)]
    by_cases hz : share ≤ pc (kst k i &&& parts)
    · rw [if_neg (by omega), if_pos (by simpa using hz)]
    · rw [if_pos (by omega), if_neg (by simpa using hz)]
  · rw [e_X1_holdersOfSome_1, h.2.1, if_neg (by omega)]
    rfl
/-- DISHES that share enough with one -/
def ksh (k : Kt) (share x : Nat) : Nat := bm (fun d => decide (share ≤ pc (kst k d &&& kst k x)) && d != x) (kn k)
theorem c_X1_sharing (d : Nat) {μ : jM} {k : Kt} (h : KI μ k) (x share : Nat) (hx : x < kn k) (hs : share < 100) : CL (d + 3) 32 [jR 3, jI x, jI share] μ = rI (ksh k share x : Nat) μ := by
  have h10 := h.1.1
  have hb := bm_lt' (fun d => decide (share ≤ pc (kst k d &&& kst k x))) h10
  have hp := p2_le (show x ≤ 10 by omega)
  rw [e_X1_sharing, c_X1_stuffsOf _ h x hx, bI_r, c_X1_holdersOfSome _ h _ _ (h.1.2.2.1 x hx).2.1 hs, bI_r, shl_1 _ (by omega), xor_m1 _ (by omega)]
  unfold ksome
  rw [and_nc _ _ (by omega) (by omega)]
  have e1 : nd (bm (fun d => decide (share ≤ pc (kst k d &&& kst k x))) (kn k)) (2 ^ x) = ksh k share x := by
    apply Nat.eq_of_testBit_eq
    intro j
    unfold ksh
    rw [nd_tb, bm_tb, bm_tb, Nat.testBit_two_pow]
    by_cases hj : x = j
    · subst hj
      simp
    · have : (j != x) = true := by simpa using fun z => hj z.symm
      rw [this]
      simp [hj]
  rw [e1]
/-- sums -/
def sm (f : Nat → Int) : Nat → Int
  | 0 => 0
  | n + 1 => sm f n + f n
theorem sm_b {f : Nat → Int} {B : Int} : ∀ n : Nat, (∀ i, i < n → -B ≤ f i ∧ f i ≤ B) → -(n * B) ≤ sm f n ∧ sm f n ≤ n * B
  | 0, _ => by simp [sm]
  | n + 1, h => by
    have h1 := sm_b n (fun i hi => h i (by omega))
    have h2 := h n (by omega)
    have e : ((n + 1 : Nat) : Int) * B = n * B + B := by
      rw [Int.natCast_succ, Int.add_mul, Int.one_mul]
    rw [e]
    show -(n * B + B) ≤ sm f n + f n ∧ sm f n + f n ≤ n * B + B
    omega
theorem sm_cg {f g : Nat → Int} : ∀ n : Nat, (∀ i, i < n → f i = g i) → sm f n = sm g n
  | 0, _ => rfl
  | n + 1, h => by
    show sm f n + f n = sm g n + g n
    rw [sm_cg n (fun i hi => h i (by omega)), h n (by omega)]
/-- COST of a set -/
def kcs (k : Kt) (s : Nat) : Int := sm (fun d => if s.testBit d then (kco k d : Int) else 0) (kn k)
theorem c_X1_costOfAll (d : Nat) {μ : jM} {k : Kt} (h : KI μ k) (s : Nat) (hs : s < 1024) : CL (d + 1) 25 [jR 3, jI s] μ = rI (kcs k s) μ := by
  have h10 := h.1.1
  rw [e_X1_costOfAll]
  refine (lp_0 (fun i : Nat => EV d T_X1_costOfAll 1 [some (jR 3), some (jI s), some (jI (sm (fun d => if s.testBit d then (kco k d : Int) else 0) i)), some (jI i)] [] μ) (kn k) (fun i hi => ?_)).trans ?_
  · have hc := (h.1.2.2.1 i hi).2.2.1
    have hb := sm_b (f := fun d => if s.testBit d then (kco k d : Int) else 0) (B := 99) i (fun j hj => by
      have := (h.1.2.2.1 j (by omega)).2.2.1
      split <;> omega)
    rw [e_X1_costOfAll_1, h.2.1, if_pos (by omega), gd_t (by omega), (h.2.2.2.1 i hi).2.1, tb_1 _ _ (by omega) (by omega), w_s _ (by omega)]
    have e1 : w32 ((if s.testBit i then 1 else 0) * (kco k i : Int)) = if s.testBit i then (kco k i : Int) else 0 := by
      cases s.testBit i
      · rw [if_neg (by decide), if_neg (by decide), Int.zero_mul]
        rfl
      · rw [if_pos rfl, if_pos rfl, Int.one_mul, w_id (by omega) (by omega)]
    rw [e1, w_id (by split <;> omega) (by split <;> omega)]
    rfl
  · rw [e_X1_costOfAll_1, h.2.1, if_neg (by omega)]
    rfl
