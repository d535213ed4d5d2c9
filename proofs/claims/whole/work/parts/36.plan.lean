/-! ## sums of weights, goals -/
theorem rc_ge {k : Kt} {w : Lw} {A : Ap} {s0 l0 : Nat} : ∀ m s l, rc k w A s0 l0 m s l = true → s0 ≤ s
  | 0, s, l, h => by
    simp only [rc, Bool.and_eq_true, beq_iff_eq] at h
    omega
  | m + 1, s, l, h => by
    simp only [rc, Bool.and_eq_true, decide_eq_true_eq] at h
    obtain ⟨l', -, h9⟩ := anb_iff.mp h.2
    rw [Bool.and_eq_true] at h9
    have h1 := rc_ge m _ _ h9.1
    have h2 := nd_le s (2 ^ l)
    omega
theorem rr_ge {k : Kt} {w : Lw} {A : Ap} {s0 l0 s l : Nat} (h : rr k w A s0 l0 s l = true) : s0 ≤ s := rc_ge _ _ _ h
theorem re_ge {k : Kt} {w : Lw} {A : Ap} {s0 l0 s : Nat} (h : s < s0) : re k w A s0 l0 s = 0 := by
  apply Nat.eq_of_testBit_eq
  intro l
  unfold re
  rw [bm_tb, Nat.zero_testBit]
  cases hr : rr k w A s0 l0 s l with
  | false => simp
  | true => have := rr_ge hr; omega
def ws (f : Nat → Int) (t : Nat) : Int := sm (fun d => if t.testBit d then f d else 0) 10
theorem ws_cg {f g : Nat → Int} {t : Nat} (h : ∀ d, d < 10 → t.testBit d = true → f d = g d) : ws f t = ws g t := sm_cg 10 (fun d hd => by
  cases ht : t.testBit d with
  | false => rfl
  | true => exact h d hd ht)
theorem ws_b {f : Nat → Int} {t : Nat} {B : Int} (hB : 0 ≤ B) (h : ∀ d, d < 10 → t.testBit d = true → -B ≤ f d ∧ f d ≤ B) : -(10 * B) ≤ ws f t ∧ ws f t ≤ 10 * B := by
  have := sm_b (f := fun d => if t.testBit d then f d else 0) (B := B) 10 (fun d hd => by
    show -B ≤ (if t.testBit d then f d else 0) ∧ (if t.testBit d then f d else 0) ≤ B
    cases ht : t.testBit d with
    | false =>
      show -B ≤ (0 : Int) ∧ (0 : Int) ≤ B
      exact ⟨by omega, hB⟩
    | true => exact h d hd ht)
  exact this
theorem c_X5_sum (d : Nat) (μ : jM) (p : Nat) (hk : KD p = 20) (hn : LN p = 10) (t : Nat) (ht : t < 1024) (h : ∀ i : Nat, i < 10 → t.testBit i = true → -100000 ≤ μ p i ∧ μ p i ≤ 100000) : CL (d + 1) 86 [jR p, jI t] μ = rI (ws (fun i => μ p i) t) μ := by
  let g : Nat → Int := fun i => if t.testBit i then μ p i else 0
  have hg : ∀ i, i < 10 → -100000 ≤ g i ∧ g i ≤ 100000 := fun i hi => by
    show -100000 ≤ (if t.testBit i then μ p i else 0) ∧ (if t.testBit i then μ p i else 0) ≤ 100000
    cases hb : t.testBit i with
    | false =>
      show -100000 ≤ (0 : Int) ∧ (0 : Int) ≤ 100000
      exact ⟨by decide, by decide⟩
    | true => exact h i hi hb
  rw [e_X5_sum]
  refine (lp_0 (fun i : Nat => EV d T_X5_sum 1 [some (jR p), some (jI t), some (jI (sm g i)), some (jI i)] [] μ) 10 (fun i hi => ?_)).trans ?_
  · have hi2 := hg i hi
    have hs := sm_b (f := g) (B := 100000) i (fun j hj => hg j (by omega))
    have hs2 := sm_b (f := g) (B := 100000) (i + 1) (fun j hj => hg j (by omega))
    have e : w32 ((if t.testBit i then (1 : Int) else 0) * μ p i) = g i := by
      show _ = (if t.testBit i then μ p i else 0)
      cases hb : t.testBit i with
      | false =>
        rw [if_neg (by decide), if_neg (by decide), Int.zero_mul]
        rfl
      | true =>
        rw [if_pos rfl, if_pos rfl, Int.one_mul]
        have := h i hi hb
        exact w_id (by omega) (by omega)
    rw [e_X5_sum_1, hk, hn, tb_1 t i (by omega) (by omega), e, w_s _ (by omega), w_id (x := sm g i + g i) (by have : sm g (i + 1) = sm g i + g i := rfl; omega) (by have : sm g (i + 1) = sm g i + g i := rfl; omega)]
    show (if (i : Int) < 10 then gd _ _ else _) = _
    rw [if_pos (by omega), gd_t (by omega)]
    rfl
  · rw [e_X5_sum_1, hk, hn]
    rfl
/-- the least of the lines' sums -/
def wo (W : Nat → Nat → Int) (t : Nat) : Nat → Int
  | 0 => 1000000
  | i + 1 => min (wo W t i) (ws (W i) t)
/-- what the plan holds: lines and weights, ends, purse, costs -/
def PX (μ : jM) (L : Nat) (P : Int) (C : Nat → Int) : Prop := μ 36 5 = (L : Int) ∧ L < 2048 ∧ μ 36 6 = P ∧ ∀ x : Nat, x < 10 → μ 45 x = C x
def PW (μ : jM) (k : Kt) (n : Nat) (W : Nat → Nat → Int) : Prop := ∀ i x : Nat, i < n → x < kn k → μ (38 + i) x = W i x
def PI (μ : jM) (k : Kt) (n : Nat) (W : Nat → Nat → Int) (L : Nat) (P : Int) (C : Nat → Int) : Prop := n ≤ 6 ∧ μ 36 4 = (n : Int) ∧ PX μ L P C ∧ PW μ k n W
/-- a line being filled -/
def PL (μ : jM) (k : Kt) (n : Nat) (W : Nat → Nat → Int) (L : Nat) (P : Int) (C : Nat → Int) (j : Nat) : Prop := n < 6 ∧ μ 36 4 = ((n + 1 : Nat) : Int) ∧ PX μ L P C ∧ PW μ k n W ∧ ∀ x : Nat, x < j → μ (38 + n) x = W n x
theorem PX_cg {μ μ' : jM} {L : Nat} {P : Int} {C : Nat → Int} (h : PX μ L P C) (e : μ' 36 5 = μ 36 5) (e2 : μ' 36 6 = μ 36 6) (e3 : μ' 45 = μ 45) : PX μ' L P C := ⟨by rw [e]; exact h.1, h.2.1, by rw [e2]; exact h.2.2.1, fun x hx => by rw [e3]; exact h.2.2.2 x hx⟩
theorem PI_cg {μ μ' : jM} {k : Kt} {n : Nat} {W : Nat → Nat → Int} {L : Nat} {P : Int} {C : Nat → Int} (h : PI μ k n W L P C) (e : ∀ q, 36 ≤ q → q ≤ 45 → q ≠ 44 → q ≠ 36 → μ' q = μ q) (e4 : ∀ j, j ≠ 7 → μ' 36 j = μ 36 j) : PI μ' k n W L P C := ⟨h.1, by rw [e4 4 (by decide)]; exact h.2.1, PX_cg h.2.2.1 (e4 5 (by decide)) (e4 6 (by decide)) (e 45 (by decide) (by decide) (by decide) (by decide)), fun i x hi hx => by
  have := h.1
  rw [e (38 + i) (by omega) (by omega) (by omega) (by omega)]
  exact h.2.2.2 i x hi hx⟩
theorem PL_cg {μ μ' : jM} {k : Kt} {n : Nat} {W : Nat → Nat → Int} {L : Nat} {P : Int} {C : Nat → Int} {j : Nat} (h : PL μ k n W L P C j) (e : ∀ q, 36 ≤ q → q ≤ 45 → μ' q = μ q) : PL μ' k n W L P C j := by
  have h6 := h.1
  refine ⟨h.1, by rw [e 36 (by decide) (by decide)]; exact h.2.1, PX_cg h.2.2.1 (by rw [e 36 (by decide) (by decide)]) (by rw [e 36 (by decide) (by decide)]) (e 45 (by decide) (by decide)), fun i x hi hx => ?_, fun x hx => ?_⟩
  · rw [e (38 + i) (by omega) (by omega)]
    exact h.2.2.2.1 i x hi hx
  · rw [e (38 + n) (by omega) (by omega)]
    exact h.2.2.2.2 x hx
theorem PL_end {μ : jM} {k : Kt} {n : Nat} {W : Nat → Nat → Int} {L : Nat} {P : Int} {C : Nat → Int} (h : PL μ k n W L P C (kn k)) : PI μ k (n + 1) W L P C := by
  refine ⟨h.1, h.2.1, h.2.2.1, fun i x hi hx => ?_⟩
  by_cases hi2 : i < n
  · exact h.2.2.2.1 i x hi2 hx
  · have : i = n := by omega
    rw [this]
    exact h.2.2.2.2 x hx
theorem c_X5_begin (d : Nat) (μ : jM) (k : Kt) (W : Nat → Nat → Int) : ∃ μ', CL (d + 2) 76 [jR 36] μ = rV μ' ∧ (∀ q, q ≠ 36 → q ≠ 45 → μ' q = μ q) ∧ PI μ' k 0 W 2047 999 (fun _ => 0) := by
  have hf : ∀ d μ, CL (d + 1) 1 [jR 45, jI 0] μ = rV (jpre μ 45 (fun _ => 0) 10) := fun d μ => c_fill d μ 45 10 0 (by decide) (by decide)
  refine ⟨_, by rw [e_X5_begin, hf, bV_r], fun q h1 h2 => ?_, Nat.zero_le 6, ?_, ⟨?_, by decide, ?_, fun x hx => jpre_lo hx⟩, fun i x hi _ => absurd hi (Nat.not_lt_zero i)⟩
  · rw [jpre_ne h2, jup_ne h1, jup_ne h1, jup_ne h1]
  · rw [jpre_ne (by decide), jup_m (by decide), jup_m (by decide), jup_r]
    rfl
  · rw [jpre_ne (by decide), jup_m (by decide), jup_r]
    rfl
  · rw [jpre_ne (by decide), jup_r]
theorem c_X5_addLine (d : Nat) {μ : jM} {k : Kt} {n : Nat} {W : Nat → Nat → Int} {L : Nat} {P : Int} {C : Nat → Int} (h : PI μ k n W L P C) (hn : n < 6) : ∃ μ', CL (d + 1) 77 [jR 36] μ = rV μ' ∧ (∀ q, q ≠ 36 → μ' q = μ q) ∧ PL μ' k n W L P C 0 := by
  refine ⟨_, by rw [e_X5_addLine, h.2.1, if_pos (by omega), w_s _ (by omega)], fun q hq => jup_ne hq, hn, jup_r _ _ _ _, PX_cg h.2.2.1 (jup_m (by decide)) (jup_m (by decide)) (jup_ne (by decide)), fun i x hi hx => ?_, fun x hx => absurd hx (Nat.not_lt_zero x)⟩
  exact (congrFun (jup_ne (show 38 + i ≠ 36 by omega)) _).trans (h.2.2.2 i x hi hx)
theorem RF_37 : ∀ i : Nat, i < 6 → RF 37 (i : Int) = 38 + i ∧ KD (38 + i) = 20 ∧ LN (38 + i) = 10 := by decide
theorem c_X5_weigh (d : Nat) {μ : jM} {k : Kt} {n : Nat} {W : Nat → Nat → Int} {L : Nat} {P : Int} {C : Nat → Int} {j : Nat} (h : PL μ k n W L P C j) (hj : j < 10) : ∃ μ', CL (d + 1) 78 [jR 36, jI j, jI (W n j)] μ = rV μ' ∧ (∀ q, q < 38 ∨ 43 < q → μ' q = μ q) ∧ PL μ' k n W L P C (j + 1) := by
  have hn := h.1
  obtain ⟨r1, r2, r3⟩ := RF_37 n hn
  refine ⟨jup μ (38 + n) j (W n j), ?_, fun q hq => jup_ne (by omega), hn, ?_, PX_cg h.2.2.1 (jup_n (by omega)) (jup_n (by omega)) (jup_ne (by omega)), fun i x hi hx => ?_, fun x hx => ?_⟩
  · have e1 : w32 (((n + 1 : Nat) : Int) - 1) = (n : Int) := by
      rw [w_id (by omega) (by omega)]
      omega
    rw [e_X5_weigh, h.2.1, e1, if_pos (by omega), if_neg (by omega), if_pos (by omega), gd_t (by omega), r1, cd_t r2, r3, gd_t (by omega)]
  · rw [jup_n (by omega)]
    exact h.2.1
  · rw [jup_ne (by omega)]
    exact h.2.2.2.1 i x hi hx
  · by_cases hxj : x = j
    · rw [hxj, jup_r]
    · rw [jup_m (by omega)]
      exact h.2.2.2.2 x (by omega)
theorem c_X5_weighAll (d : Nat) {μ : jM} {k : Kt} {W : Nat → Nat → Int} {L : Nat} {P : Int} {C : Nat → Int} {n : Nat} (hk : KI μ k) (h : PI μ k n W L P C) (hn : n < 6) (v : Int) (hW : ∀ x, W n x = v) : ∃ μ', CL (d + 2) 79 [jR 36, jR 3, jI v] μ = rV μ' ∧ (∀ q, q < 36 ∨ 43 < q → μ' q = μ q) ∧ PI μ' k (n + 1) W L P C := by
  obtain ⟨μ1, e1, f1, p1⟩ := c_X5_addLine d h hn
  have key : ∀ (r j : Nat) (μ1 : jM), j + r = kn k → (∀ q, q < 36 ∨ 43 < q → μ1 q = μ q) → PL μ1 k n W L P C j → ∃ μ', EV (d + 1) T_X5_weighAll 1 [some (jR 36), some (jR 3), some (jI v), some (jI j)] [] μ1 = rV μ' ∧ (∀ q, q < 36 ∨ 43 < q → μ' q = μ q) ∧ PI μ' k (n + 1) W L P C := by
    intro r
    induction r with
    | zero =>
      intro j μ1 hj f1 p1
      have hk1 : KI μ1 k := KI_cg hk (fun q _ _ => f1 q (by omega))
      refine ⟨μ1, ?_, f1, PL_end (by rw [← hj]; exact p1)⟩
      rw [e_X5_weighAll_1, e_X1_dishes, hk1.2.1, bI_r, if_neg (by omega)]
    | succ r ih =>
      intro j μ1 hj f1 p1
      have hk1 : KI μ1 k := KI_cg hk (fun q _ _ => f1 q (by omega))
      have h10 := hk.1.1
      obtain ⟨μ2, e2, f2, p2⟩ := c_X5_weigh d p1 (by omega)
      rw [hW j] at e2
      obtain ⟨μ3, e3, f3, p3⟩ := ih (j + 1) μ2 (by omega) (fun q hq => by rw [f2 q (by omega), f1 q hq]) p2
      refine ⟨μ3, ?_, f3, p3⟩
      rw [e_X5_weighAll_1, e_X1_dishes, hk1.2.1, bI_r, if_pos (by omega), e2, bV_r, w_s _ (by omega), e3]
  obtain ⟨μ2, e2, f2, p2⟩ := key (kn k) 0 μ1 (Nat.zero_add _) (fun q hq => f1 q (by omega)) p1
  exact ⟨μ2, by rw [e_X5_weighAll, e1, bV_r]; exact e2, f2, p2⟩
theorem c_X5_endWith (d : Nat) {μ : jM} {k : Kt} {n : Nat} {W : Nat → Nat → Int} {L : Nat} {P : Int} {C : Nat → Int} (h : PI μ k n W L P C) (L' : Nat) (hL : L' < 2048) : ∃ μ', CL (d + 1) 80 [jR 36, jI L'] μ = rV μ' ∧ (∀ q, q ≠ 36 → μ' q = μ q) ∧ PI μ' k n W L' P C := by
  refine ⟨_, e_X5_endWith d μ _, fun q hq => jup_ne hq, h.1, ?_, ⟨jup_r _ _ _ _, hL, ?_, fun x hx => ?_⟩, fun i x hi hx => ?_⟩
  · rw [jup_m (by decide)]
    exact h.2.1
  · rw [jup_m (by decide)]
    exact h.2.2.1.2.2.1
  · rw [jup_ne (by decide)]
    exact h.2.2.1.2.2.2 x hx
  · rw [jup_ne (by omega)]
    exact h.2.2.2 i x hi hx
theorem c_X5_limit (d : Nat) {μ : jM} {k : Kt} {n : Nat} {W : Nat → Nat → Int} {L : Nat} {P : Int} {C : Nat → Int} (hk : KI μ k) (h : PI μ k n W L P C) (P' : Int) : ∃ μ', CL (d + 3) 81 [jR 36, jR 3, jI P'] μ = rV μ' ∧ (∀ q, q ≠ 36 → q ≠ 45 → μ' q = μ q) ∧ PI μ' k n W L P' (fun x => if x < kn k then (kco k x : Int) else 0) := by
  let g : Nat → Int := fun x => if x < kn k then (kco k x : Int) else 0
  let μ1 := jup μ 36 6 P'
  refine ⟨jpre μ1 45 g 10, ?_, fun q h1 h2 => ?_, h.1, ?_, ⟨?_, h.2.2.1.2.1, ?_, fun x hx => jpre_lo hx⟩, fun i x hi hx => ?_⟩
  · rw [e_X5_limit]
    refine Eq.trans ?_ ((lp_0 (fun i : Nat => EV (d + 2) T_X5_limit 1 [some (jR 36), some (jR 3), none, some (jI i)] [] (jpre μ1 45 g i)) 10 (fun i hi => ?_)).trans ?_)
    · rw [jpre_0]
      rfl
    · have hk1 : KI (jpre μ1 45 g i) k := KI_cg hk (fun q _ _ => by rw [jpre_ne (by omega)]; exact jup_ne (by omega))
      have ec : CL (d + 2) 15 [jR 3, jI i] (jpre μ1 45 g i) = rI (g i) (jpre μ1 45 g i) := by
        show _ = rI (if i < kn k then (kco k i : Int) else 0) _
        by_cases hi2 : i < kn k
        · rw [if_pos hi2]
          exact c_X1_costOf _ hk1 i hi2
        · rw [if_neg hi2]
          exact c_X1_costOf' _ hk1 i (by omega)
      rw [e_X5_limit_1, if_pos (by omega), ec, bI_r, gd_t (by omega), w_s _ (by omega), jpre_s μ1 45 g i rfl]
    · rw [e_X5_limit_1, if_neg (by decide)]
  · rw [jpre_ne h2]
    exact jup_ne h1
  · rw [jpre_ne (by decide)]
    exact (jup_m (by decide)).trans h.2.1
  · rw [jpre_ne (by decide)]
    exact (jup_m (by decide)).trans h.2.2.1.1
  · rw [jpre_ne (by decide)]
    exact jup_r _ _ _ _
  · have h6 := h.1
    rw [jpre_ne (by omega), show μ1 (38 + i) = μ (38 + i) from jup_ne (by omega)]
    exact h.2.2.2 i x hi hx
