/-! ## the reference: kitchen, law, banquet, row -/
def KR (μ : jM) (k : Kt) : Prop := Kok k ∧ μ 69 1 = (kn k : Int) ∧ μ 69 6 = (kg k : Int) ∧ (∀ d : Nat, d < kn k → μ 71 d = (kst k d : Int) ∧ μ 72 d = (kco k d : Int) ∧ μ 73 d = (khe k d : Int) ∧ μ 74 d = (kho k d : Int)) ∧ (∀ g : Nat, g < kg k → μ 75 g = (klo k g : Int) ∧ μ 76 g = (kba k g : Int))
theorem KR_cg {μ μ' : jM} {k : Kt} (h : KR μ k) (e : ∀ q, 71 ≤ q → q ≤ 76 → μ' q = μ q) (e1 : μ' 69 1 = μ 69 1) (e2 : μ' 69 6 = μ 69 6) : KR μ' k := by
  obtain ⟨h1, h2, h3, h4, h5⟩ := h
  refine ⟨h1, by rw [e1]; exact h2, by rw [e2]; exact h3, fun d hd => ?_, fun g hg => ?_⟩
  · rw [e 71 (by decide) (by decide), e 72 (by decide) (by decide), e 73 (by decide) (by decide), e 74 (by decide) (by decide)]
    exact h4 d hd
  · rw [e 75 (by decide) (by decide), e 76 (by decide) (by decide)]
    exact h5 g hg
def LR (μ : jM) (w : Lw) : Prop := Lok w ∧ μ 69 9 = (lsh w : Int) ∧ μ 69 10 = (lti w : Int) ∧ μ 69 11 = (lhe w : Int) ∧ ∀ s : Nat, s < 8 → μ 70 s = (lst w s : Int)
theorem LR_cg {μ μ' : jM} {w : Lw} (h : LR μ w) (e : μ' 70 = μ 70) (e1 : μ' 69 9 = μ 69 9) (e2 : μ' 69 10 = μ 69 10) (e3 : μ' 69 11 = μ 69 11) : LR μ' w := by
  obtain ⟨h1, h2, h3, h4, h5⟩ := h
  exact ⟨h1, by rw [e1]; exact h2, by rw [e2]; exact h3, by rw [e3]; exact h4, fun s hs => by rw [e]; exact h5 s hs⟩
def SR (μ : jM) (b : List Nat) : Prop := Bok 10 b ∧ μ 69 13 = (b.length : Int) ∧ LAn (μ 77) b
theorem SR_cg {μ μ' : jM} {b : List Nat} (h : SR μ b) (e : μ' 77 = μ 77) (e1 : μ' 69 13 = μ 69 13) : SR μ' b := ⟨h.1, by rw [e1]; exact h.2.1, by rw [e]; exact h.2.2⟩
def RR (μ : jM) (r : List Int) : Prop := r.length ≤ 16 ∧ μ 69 19 = (r.length : Int) ∧ LA (μ 81) r
theorem RR_cg {μ μ' : jM} {r : List Int} (h : RR μ r) (e : μ' 81 = μ 81) (e1 : μ' 69 19 = μ 69 19) : RR μ' r := ⟨h.1, by rw [e1]; exact h.2.1, by rw [e]; exact h.2.2⟩
theorem c_X12_in (d : Nat) (μ : jM) (x a b : Int) : CL (d + 1) 206 [jI x, jI a, jI b] μ = rI (if a ≤ x ∧ x ≤ b then 1 else 0) μ := by
  rw [e_X12_in]
  by_cases h1 : x < a
  · rw [if_pos h1, if_neg (by omega)]
    rfl
  · rw [if_neg h1]
    by_cases h2 : b < x
    · rw [if_pos h2, if_neg (by omega)]
      rfl
    · rw [if_neg h2, if_pos (by omega)]
      rfl
theorem c_X12_has (d : Nat) (μ : jM) (s i : Nat) (hs : s < 2147483648) (hi : i < 32) : CL (d + 1) 207 [jI s, jI i] μ = rI (if s.testBit i then 1 else 0) μ := by
  rw [e_X12_has, tb_1 s i hi hs]
  cases s.testBit i <;> rfl
theorem c_X12_lost (d : Nat) (μ : jM) : CL (d + 1) 208 [jR 69] μ = rI 0 (jup μ 69 20 1) := e_X12_lost d μ
/-- after a tell: the row is one longer, nothing else has changed -/
theorem c_X12_tell (d : Nat) {μ : jM} {r : List Int} (h : RR μ r) (v : Int) (hl : r.length < 16) : ∃ μ', CL (d + 1) 209 [jR 69, jI v] μ = rV μ' ∧ (∀ q, q ≠ 69 → q ≠ 81 → μ' q = μ q) ∧ (∀ j, j ≠ 19 → μ' 69 j = μ 69 j) ∧ RR μ' (r ++ [v]) := by
  rw [e_X12_tell, h.2.1, gd_t (by omega), jup_n (by decide), h.2.1, w_s _ (by omega)]
  refine ⟨_, rfl, fun q h1 h2 => by rw [jup_ne h1, jup_ne h2], fun j hj => by rw [jup_m hj, jup_n (by decide)], by simp; omega, by rw [jup_r]; simp, ?_⟩
  rw [jup_ne (by decide), jup_eq]
  exact LA_snoc h.2.2
theorem c_X12_isDish (d : Nat) {μ : jM} {k : Kt} (h : KR μ k) (x : Int) : CL (d + 2) 210 [jR 69, jI x] μ = rI (if 0 ≤ x ∧ x < kn k then 1 else 0) μ := by
  have h10 := h.1.1
  rw [e_X12_isDish, h.2.1, w_id (by omega) (by omega), c_X12_in, bI_r]
  by_cases hx : 0 ≤ x ∧ x < kn k
  · rw [if_pos hx, if_pos (by omega)]
    rfl
  · rw [if_neg hx, if_neg (by omega)]
    rfl
theorem c_X12_isGuest (d : Nat) {μ : jM} {k : Kt} (h : KR μ k) (x : Int) : CL (d + 2) 211 [jR 69, jI x] μ = rI (if 0 ≤ x ∧ x < kg k then 1 else 0) μ := by
  have h10 := h.1.2.1
  rw [e_X12_isGuest, h.2.2.1, w_id (by omega) (by omega), c_X12_in, bI_r]
  by_cases hx : 0 ≤ x ∧ x < kg k
  · rw [if_pos hx, if_pos (by omega)]
    rfl
  · rw [if_neg hx, if_neg (by omega)]
    rfl
theorem c_X12_isHungry (d : Nat) {μ : jM} {k : Kt} (h : KR μ k) (g x : Nat) (hg : g < kg k) (hx : x < kn k) : CL (d + 1) 231 [jR 69, jI g, jI x] μ = rI (if khu k g x then 1 else 0) μ := by
  have hb := (h.1.2.2.2 g hg).2
  have hs := (h.1.2.2.1 x hx).2.1
  have h10 := h.1.1
  have h6 := h.1.2.1
  rw [e_X12_isHungry, gd_t (by omega), gd_t (by omega), (h.2.2.2.1 x hx).1, (h.2.2.2.2 g hg).2, and_nn _ _ (by omega) (by omega)]
  unfold khu
  rw [Nat.and_comm (kba k g)]
  by_cases hz : kst k x &&& kba k g = 0
  · rw [hz]
    rfl
  · rw [if_neg (by omega)]
    simp [hz, gd]
theorem c_X12_shared (d : Nat) {μ : jM} {k : Kt} (h : KR μ k) (x y : Nat) (hx : x < kn k) (hy : y < kn k) : CL (d + 2) 239 [jR 69, jI x, jI y] μ = rI (pc (kst k x &&& kst k y) : Nat) μ := by
  have h10 := h.1.1
  have h1 := (h.1.2.2.1 x hx).2.1
  have h2 := (h.1.2.2.1 y hy).2.1
  have ha := Nat.and_le_left (n := kst k x) (m := kst k y)
  rw [e_X12_shared, gd_t (by omega), gd_t (by omega), (h.2.2.2.1 x hx).1, (h.2.2.2.1 y hy).1, and_nn _ _ (by omega) (by omega), c_bc _ _ _ (by omega), bI_r]
theorem tb_hi {s n i : Nat} (hs : s < 2 ^ n) (hi : n ≤ i) : s.testBit i = false := Nat.testBit_lt_two_pow (Nat.lt_of_lt_of_le hs (Nat.pow_le_pow_right (by decide) hi))
theorem khot_tb (k : Kt) {i : Nat} (hi : i < kn k) : (khot k).testBit i = (khe k i == 1) := by
  unfold khot
  rw [bm_tb]
  simp [hi]
theorem and_z {a b : Nat} : (a &&& b) = 0 ↔ ∀ i, ¬ (a.testBit i = true ∧ b.testBit i = true) := by
  constructor
  · intro h i hz
    have h1 := Nat.testBit_and a b i
    rw [h, hz.1, hz.2, Nat.zero_testBit] at h1
    cases h1
  · intro h
    apply Nat.eq_of_testBit_eq
    intro i
    rw [Nat.testBit_and, Nat.zero_testBit]
    have := h i
    cases ha : a.testBit i with
    | false => rfl
    | true =>
      cases hb : b.testBit i with
      | false => rfl
      | true => exact absurd ⟨ha, hb⟩ this
theorem c_X12_hasHot (d : Nat) {μ : jM} {k : Kt} (h : KR μ k) (s : Nat) (hs : s < 2 ^ kn k) : CL (d + 2) 240 [jR 69, jI s] μ = rI (if (s &&& khot k) != 0 then 1 else 0) μ := by
  have h10 := h.1.1
  have hs2 : s < 1024 := Nat.lt_of_lt_of_le hs (p2_le h10)
  have ev : ∀ i, i < kn k → EV (d + 1) T_X12_hasHot 1 [some (jR 69), some (jI s), some (jI (i : Nat))] [] μ = if s.testBit i && (khe k i == 1) then rI 1 μ else EV (d + 1) T_X12_hasHot 1 [some (jR 69), some (jI s), some (jI (i + 1 : Nat))] [] μ := by
    intro i hi
    have hh := (h.1.2.2.1 i hi).2.2.2.1
    rw [e_X12_hasHot_1, h.2.1, if_neg (by omega), c_X12_has _ _ s i (by omega) (by omega), bI_r, w_s _ (by omega), gd_t (by omega), (h.2.2.2.1 i hi).2.2.1]
    cases s.testBit i with
    | false => rfl
    | true =>
      refine (if_neg (by decide)).trans ?_
      by_cases hz : khe k i = 0
      · rw [if_pos (by omega), hz]
        rfl
      · have hz2 : khe k i = 1 := by omega
        rw [if_neg (by omega), hz2]
        rfl
  rw [e_X12_hasHot]
  refine (lp_fs (fun i : Nat => EV (d + 1) T_X12_hasHot 1 [some (jR 69), some (jI s), some (jI i)] [] μ) (fun i => s.testBit i && (khe k i == 1)) (kn k) (fun i hi hp _ => ?_)).trans ?_
  · rw [ev i hi, hp]
    rfl
  · obtain ⟨f1, f2, f3⟩ := fs_spec (fun i => s.testBit i && (khe k i == 1)) (kn k)
    by_cases hlt : fs (fun i => s.testBit i && (khe k i == 1)) (kn k) < kn k
    · have hp := f3 hlt
      have hne : (s &&& khot k) != 0 := by
        rw [bne_iff_ne]
        intro hz
        rw [Bool.and_eq_true] at hp
        exact and_z.mp hz _ ⟨hp.1, by rw [khot_tb k hlt]; exact hp.2⟩
      rw [ev _ hlt, hp, hne]
      rfl
    · have e9 : fs (fun i => s.testBit i && (khe k i == 1)) (kn k) = kn k := by omega
      have hz : (s &&& khot k) = 0 := and_z.mpr (fun i hi => by
        by_cases hik : i < kn k
        · have h2 := f2 i (by omega)
          rw [khot_tb k hik] at hi
          rw [hi.1, hi.2] at h2
          cases h2
        · rw [tb_hi hs (by omega)] at hi
          cases hi.1)
      rw [e9, e_X12_hasHot_1, h.2.1, if_neg (by omega), c_X12_has _ _ s _ (by omega) (by omega), bI_r, tb_hi hs (Nat.le_refl _), hz]
      refine (if_pos rfl).trans ?_
      rw [w_s _ (by omega), e_X12_hasHot_1, h.2.1, if_pos (by omega)]
      rfl
/-! how many bits: a sum -/
def cnt (P : Nat → Bool) : Nat → Nat
  | 0 => 0
  | n + 1 => cnt P n + (if P n then 1 else 0)
theorem pcb_cnt (s : Nat) : ∀ n, pcb n s = cnt (fun i => s.testBit i) n
  | 0 => rfl
  | n + 1 => by
    show pcb n s + _ = cnt _ n + _
    rw [pcb_cnt s n]
theorem cnt_cg {P Q : Nat → Bool} : ∀ {n : Nat}, (∀ i, i < n → P i = Q i) → cnt P n = cnt Q n
  | 0, _ => rfl
  | n + 1, h => by
    show cnt P n + _ = cnt Q n + _
    rw [cnt_cg (fun i hi => h i (by omega)), h n (by omega)]
theorem cnt_hi {P : Nat → Bool} {n : Nat} : ∀ {m : Nat}, n ≤ m → (∀ i, n ≤ i → i < m → P i = false) → cnt P m = cnt P n
  | 0, h, _ => by
    have : n = 0 := by omega
    rw [this]
  | m + 1, h, hp => by
    by_cases e : n = m + 1
    · rw [e]
    · show cnt P m + _ = _
      rw [cnt_hi (by omega) (fun i h1 h2 => hp i h1 (by omega)), hp m (by omega) (by omega)]
      rfl
theorem cnt_le (P : Nat → Bool) : ∀ n, cnt P n ≤ n
  | 0 => Nat.le_refl 0
  | n + 1 => by
    have := cnt_le P n
    show cnt P n + _ ≤ n + 1
    split <;> omega
theorem pc_cnt {s n : Nat} (hs : s < 2 ^ n) (hn : n ≤ 12) : pc s = cnt (fun i => s.testBit i) n := by
  unfold pc
  rw [pcb_cnt]
  exact cnt_hi hn (fun i h1 _ => tb_hi hs h1)
theorem cnt_or1 {P : Nat → Bool} {x : Nat} (hx : P x = false) : ∀ {n : Nat}, cnt (fun i => P i || i == x) n = cnt P n + (if x < n then 1 else 0)
  | 0 => rfl
  | n + 1 => by
    show cnt (fun i => P i || i == x) n + _ = cnt P n + _ + _
    rw [cnt_or1 hx]
    by_cases h : n = x
    · subst h
      simp [hx]
    · have h2 : (n == x) = false := by simpa using h
      simp only [h2, Bool.or_false]
      by_cases h3 : x < n
      · rw [if_pos h3, if_pos (show x < n + 1 by omega)]
        omega
      · rw [if_neg h3, if_neg (show ¬ x < n + 1 by omega)]
        omega
/-- uses of a STUFF, as the reference counts -/
theorem kus_cnt {k : Kt} (hk : Kok k) {s x u : Nat} (hs : s < 2 ^ kn k) (hx : x < kn k) (hn : s.testBit x = false) : kus k s x u = (if (kst k x).testBit u then 1 else 0) + cnt (fun i => s.testBit i && (kst k i).testBit u) (kn k) := by
  have h10 := hk.1
  have hb : khs k u < 2 ^ kn k := bm_lt _ _
  unfold kus
  rw [pc_cnt (n := kn k) (Nat.lt_of_le_of_lt Nat.and_le_left hb) (by omega)]
  by_cases hux : (kst k x).testBit u = true
  · rw [if_pos hux]
    have e : cnt (fun i => (khs k u &&& (s ||| 2 ^ x)).testBit i) (kn k) = cnt (fun i => (s.testBit i && (kst k i).testBit u) || i == x) (kn k) := by
      apply cnt_cg
      intro i hi
      rw [Nat.testBit_and, Nat.testBit_or, Nat.testBit_two_pow]
      unfold khs
      rw [bm_tb]
      by_cases h : i = x
      · subst h
        simp [hi, hux]
      · simp [hi, h, Ne.symm h, Bool.and_comm]
    rw [e, cnt_or1 (P := fun i => s.testBit i && (kst k i).testBit u) (by simp [hn]), if_pos hx]
    omega
  · rw [if_neg hux, Nat.zero_add]
    apply cnt_cg
    intro i hi
    rw [Nat.testBit_and, Nat.testBit_or, Nat.testBit_two_pow]
    unfold khs
    rw [bm_tb]
    by_cases h : i = x
    · subst h
      simp at hux
      simp [hi, hux]
    · simp [hi, Ne.symm h, Bool.and_comm]
theorem c_X12_fits (d : Nat) {μ : jM} {k : Kt} {w : Lw} (h : KR μ k) (hw : LR μ w) (s x : Nat) (hs : s < 2 ^ kn k) (hx : x < kn k) (hn : s.testBit x = false) (y : Nat) (hy : y ≤ 1) : CL (d + 2) 241 [jR 69, jI s, jI x, jI y] μ = rI (if anb (fun u => decide ((if y = 0 then lti w else lst w u) < kus k s x u)) 8 then 0 else 1) μ := by
  have h10 := h.1.1
  have hs2 : s < 1024 := Nat.lt_of_lt_of_le hs (p2_le h10)
  have hsx := (h.1.2.2.1 x hx).2.1
  -- the inner loop
  have inner : ∀ (u : Nat) (c : Nat), u < 8 → c ≤ 1 → EV (d + 1) T_X12_fits 2 [some (jR 69), some (jI s), some (jI x), some (jI y), some (jI u), some (jI c), some (jI 0)] [] μ = if (if y = 0 then lti w else lst w u) < c + cnt (fun i => s.testBit i && (kst k i).testBit u) (kn k) then rI 0 μ else EV (d + 1) T_X12_fits 1 [some (jR 69), some (jI s), some (jI x), some (jI y), some (jI (u + 1 : Nat)), none, none] [] μ := by
    intro u c hu hc
    have fin : ∀ (m : Nat), m < 100 → EV (d + 1) T_X12_fits 2 [some (jR 69), some (jI s), some (jI x), some (jI y), some (jI u), some (jI m), some (jI (kn k + 1 : Nat))] [] μ = if (if y = 0 then lti w else lst w u) < m then rI 0 μ else EV (d + 1) T_X12_fits 1 [some (jR 69), some (jI s), some (jI x), some (jI y), some (jI (u + 1 : Nat)), none, none] [] μ := by
      intro m hm
      rw [e_X12_fits_2, h.2.1, if_pos (by omega), w_s _ (by omega), hw.2.2.1, hw.2.2.2.2 u hu]
      by_cases hy0 : y = 0
      · rw [if_pos (by omega), if_pos hy0]
        by_cases hz : lti w < m
        · rw [if_pos (by omega), if_pos hz]
          rfl
        · rw [if_neg (by omega), if_neg hz]
      · rw [if_neg (by omega), if_neg hy0, gd_t (show 0 ≤ (u : Int) ∧ (u : Int) < 8 by omega)]
        by_cases hz : lst w u < m
        · rw [if_pos (by omega), if_pos hz]
          rfl
        · rw [if_neg (by omega), if_neg hz]
    have hc2 := cnt_le (fun i => s.testBit i && (kst k i).testBit u) (kn k)
    refine (lp_0 (fun i : Nat => EV (d + 1) T_X12_fits 2 [some (jR 69), some (jI s), some (jI x), some (jI y), some (jI u), some (jI (c + cnt (fun i => s.testBit i && (kst k i).testBit u) i : Nat)), some (jI i)] [] μ) (kn k) (fun i hi => ?_)).trans ?_
    · have hci := cnt_le (fun i => s.testBit i && (kst k i).testBit u) i
      have hsi := (h.1.2.2.1 i hi).2.1
      rw [e_X12_fits_2, h.2.1, if_neg (by omega), c_X12_has _ _ s i (by omega) (by omega), bI_r, w_s i (by omega), gd_t (by omega), (h.2.2.2.1 i hi).1, c_X12_has _ _ _ u (by omega) (by omega), bI_r, w_id (by omega) (by omega), w_id (by omega) (by omega)]
      show _ = EV _ _ _ [_, _, _, _, _, some (jI ((c + (cnt (fun i => s.testBit i && (kst k i).testBit u) i + (if (s.testBit i && (kst k i).testBit u) then 1 else 0)) : Nat) : Int)), _] _ _
      cases s.testBit i with
      | false =>
        refine (if_pos rfl).trans ?_
        simp only [Bool.false_and, Bool.false_eq_true, if_false, Nat.add_zero, Int.add_zero]
      | true =>
        refine (if_neg (by decide)).trans ?_
        cases (kst k i).testBit u with
        | false =>
          refine (if_pos rfl).trans ?_
          simp only [Bool.and_false, Bool.false_eq_true, if_false, Nat.add_zero, Int.add_zero]
        | true =>
          refine (if_neg (by decide)).trans ?_
          simp only [Bool.and_true, if_true]
          congr 1
    · rw [e_X12_fits_2, h.2.1, if_neg (by omega), c_X12_has _ _ s _ (by omega) (by omega), bI_r, tb_hi hs (Nat.le_refl _)]
      refine (if_pos rfl).trans ?_
      rw [Int.add_zero, w_id (by omega) (by omega), w_s _ (by omega)]
      exact fin _ (by omega)
  have outer : ∀ u, u < 8 → EV (d + 1) T_X12_fits 1 [some (jR 69), some (jI s), some (jI x), some (jI y), some (jI (u : Nat)), none, none] [] μ = if (if y = 0 then lti w else lst w u) < kus k s x u then rI 0 μ else EV (d + 1) T_X12_fits 1 [some (jR 69), some (jI s), some (jI x), some (jI y), some (jI (u + 1 : Nat)), none, none] [] μ := by
    intro u hu
    rw [e_X12_fits_1, if_pos (by omega), gd_t (by omega), (h.2.2.2.1 x hx).1, c_X12_has _ _ _ u (by omega) (by omega), bI_r, kus_cnt h.1 hs hx hn]
    cases (kst k x).testBit u with
    | false => exact (if_pos rfl).trans (inner u 0 hu (by decide))
    | true => exact (if_neg (by decide)).trans (inner u 1 hu (by decide))
  rw [e_X12_fits]
  refine (lp_fs (fun u : Nat => EV (d + 1) T_X12_fits 1 [some (jR 69), some (jI s), some (jI x), some (jI y), some (jI u), none, none] [] μ) (fun u => decide ((if y = 0 then lti w else lst w u) < kus k s x u)) 8 (fun u hu hp _ => ?_)).trans ?_
  · rw [outer u hu, if_neg (by simpa using hp)]
  · obtain ⟨f1, f2, f3⟩ := fs_spec (fun u => decide ((if y = 0 then lti w else lst w u) < kus k s x u)) 8
    cases ha : anb (fun u => decide ((if y = 0 then lti w else lst w u) < kus k s x u)) 8 with
    | true =>
      have hlt := (fs_anb _ _).mpr ha
      rw [outer _ hlt, if_pos (by simpa using f3 hlt)]
      rfl
    | false =>
      have hnlt : ¬ fs (fun u => decide ((if y = 0 then lti w else lst w u) < kus k s x u)) 8 < 8 := fun z => by
        rw [(fs_anb _ _).mp z] at ha
        cases ha
      have e8 : fs (fun u => decide ((if y = 0 then lti w else lst w u) < kus k s x u)) 8 = 8 := by omega
      rw [e8, e_X12_fits_1, if_neg (by decide)]
      rfl
theorem ksh_tb (k : Kt) (share : Nat) {l x : Nat} (hx : x < kn k) (hne : x ≠ l) : (ksh k share l).testBit x = decide (share ≤ pc (kst k x &&& kst k l)) := by
  unfold ksh
  rw [bm_tb]
  simp [hx, hne]
theorem c_X12_refusal (d : Nat) {μ : jM} {k : Kt} {w : Lw} (h : KR μ k) (hw : LR μ w) (s l x : Nat) (hs : s < 2 ^ kn k) (hl : l = 10 ∨ l < kn k ∧ s.testBit l = true) (hx : x < kn k) : CL (d + 3) 242 [jR 69, jI s, jI (lno l), jI x] μ = rI (rfs k w s l x) μ := by
  have h10 := h.1.1
  have hs2 : s < 1024 := Nat.lt_of_lt_of_le hs (p2_le h10)
  have hwo := hw.1.2.2.1
  have hws := hw.1.1
  rw [e_X12_refusal, c_X12_has _ _ s x (by omega) (by omega), bI_r]
  unfold rfs
  cases hb : s.testBit x with
  | true => rfl
  | false =>
    refine (if_pos rfl).trans (Eq.trans ?_ (congrArg (fun z => rI z μ) (if_neg (by decide)).symm))
    have r3 : EV (d + 2) T_X12_refusal 3 [some (jR 69), some (jI s), none, some (jI x)] [] μ = rI (if anb (fun u => decide (lti w < kus k s x u)) 8 then -5 else if anb (fun u => decide (lst w u < kus k s x u)) 8 then -6 else 0) μ := by
      rw [e_X12_refusal_3]
      have f0 := c_X12_fits d h hw s x hs hx hb 0 (by decide)
      have f1 := c_X12_fits d h hw s x hs hx hb 1 (by decide)
      simp only [if_true] at f0
      simp only [Nat.one_ne_zero, if_false] at f1
      have g0 := fun d => (c_X12_fits d h hw s x hs hx hb 0 (by decide))
      have g1 := fun d => (c_X12_fits d h hw s x hs hx hb 1 (by decide))
      simp only [if_true, Int.natCast_zero] at g0
      simp only [Nat.one_ne_zero, if_false, Int.natCast_one] at g1
      rw [g0, bI_r]
      cases anb (fun u => decide (lti w < kus k s x u)) 8 with
      | true => rfl
      | false =>
        refine (if_neg (by decide)).trans ?_
        rw [g1, bI_r]
        cases anb (fun u => decide (lst w u < kus k s x u)) 8 <;> rfl
    have r2 : EV (d + 2) T_X12_refusal 2 [some (jR 69), some (jI s), some (jI (lno l)), some (jI x)] [] μ = rI (if (lhe w == 2 && l != 10 && ((khot k).testBit l == (khot k).testBit x)) then -4 else if anb (fun u => decide (lti w < kus k s x u)) 8 then -5 else if anb (fun u => decide (lst w u < kus k s x u)) 8 then -6 else 0) μ := by
      rw [e_X12_refusal_2, hw.2.2.2.1]
      by_cases he : lhe w = 2
      · rw [if_pos (by omega), he]
        rcases hl with rfl | ⟨hl, hl2⟩
        · exact (if_pos rfl).trans r3
        · have e : lno l = (l : Int) := if_neg (by omega)
          have hh := (h.1.2.2.1 l hl).2.2.2.1
          have hh2 := (h.1.2.2.1 x hx).2.2.2.1
          have hl10 : (l != 10) = true := by simp; omega
          rw [e, if_neg (by omega), gd_t (by omega), gd_t (by omega), (h.2.2.2.1 l hl).2.2.1, (h.2.2.2.1 x hx).2.2.1, khot_tb k hl, khot_tb k hx, hl10]
          by_cases hz : khe k l = khe k x
          · rw [if_pos (by omega), hz]
            simp
          · rw [if_neg (by omega)]
            refine r3.trans ?_
            have e5 : ((khe k l == 1) == (khe k x == 1)) = false := by
              have : khe k l = 0 ∧ khe k x = 1 ∨ khe k l = 1 ∧ khe k x = 0 := by omega
              rcases this with ⟨a, b⟩ | ⟨a, b⟩ <;> rw [a, b] <;> rfl
            rw [e5]
            rfl
      · rw [if_neg (by omega)]
        have h5 : (lhe w == 2) = false := by simpa using he
        rw [h5]
        exact r3
    have r1 : EV (d + 2) T_X12_refusal 1 [some (jR 69), some (jI s), some (jI (lno l)), some (jI x)] [] μ = rI (if lag k w s l x then -4 else if anb (fun u => decide (lti w < kus k s x u)) 8 then -5 else if anb (fun u => decide (lst w u < kus k s x u)) 8 then -6 else 0) μ := by
      rw [e_X12_refusal_1, hw.2.2.2.1]
      unfold lag
      by_cases he : lhe w = 1
      · have e2 : (lhe w == 2) = false := by rw [he]; rfl
        rw [e2] at r2
        have r2 := r2.trans (congrArg (fun z => rI z μ) (if_neg (by simp)))
        rw [if_pos (by omega), gd_t (by omega), (h.2.2.2.1 x hx).2.2.1, if_pos he, khot_tb k hx, c_X12_hasHot _ h s hs, bI_r]
        have hh2 := (h.1.2.2.1 x hx).2.2.2.1
        by_cases hz : khe k x = 0
        · rw [if_pos (by omega), hz]
          cases (s &&& khot k) != 0 with
          | true => rfl
          | false => exact (if_pos rfl).trans r2
        · have hz2 : khe k x = 1 := by omega
          rw [if_neg (by omega), hz2]
          exact r2
      · rw [if_neg (by omega), if_neg he]
        exact r2
    rcases hl with rfl | ⟨hl, hl2⟩
    · refine (if_pos rfl).trans (r1.trans (congrArg (fun z => rI z μ) (if_neg (fun z => z.1 rfl)).symm))
    · have e : lno l = (l : Int) := if_neg (by omega)
      have hne : x ≠ l := fun z => by
        rw [z, hl2] at hb
        cases hb
      refine (if_neg (by rw [e]; omega)).trans ?_
      rw [e, c_X12_shared _ h l x hl hx, bI_r, hw.2.1, ksh_tb k _ hx hne, Nat.and_comm (kst k l)]
      by_cases hz : lsh w ≤ pc (kst k x &&& kst k l)
      · rw [if_neg (by omega)]
        refine Eq.trans ?_ (congrArg (fun z => rI z μ) (if_neg (fun y => by simp [hz] at y)).symm)
        rw [← e]
        exact r1
      · rw [if_pos (by omega)]
        exact congrArg (fun z => rI z μ) (if_pos ⟨by omega, by simpa using hz⟩).symm
/-- can it come -/
def may (k : Kt) (w : Lw) (s l x : Nat) : Bool := rfs k w s l x == 0
theorem c_X12_may (d : Nat) {μ : jM} {k : Kt} {w : Lw} (h : KR μ k) (hw : LR μ w) (s l x : Nat) (hs : s < 2 ^ kn k) (hl : l = 10 ∨ l < kn k ∧ s.testBit l = true) (hx : x < kn k) : CL (d + 4) 262 [jR 69, jI s, jI (lno l), jI x] μ = rI (if may k w s l x then 1 else 0) μ := by
  rw [e_X12_may, c_X12_refusal _ h hw s l x hs hl hx, bI_r]
  unfold may
  by_cases hz : rfs k w s l x = 0
  · rw [if_pos hz, hz]
    rfl
  · rw [if_neg hz]
    have : (rfs k w s l x == 0) = false := by simpa using hz
    rw [this]
    rfl
theorem c_X12_servedSet (d : Nat) {μ : jM} {b : List Nat} (h : SR μ b) : CL (d + 1) 243 [jR 69] μ = rI (bset b : Int) μ := by
  have hl := Bok_len h.1
  have bt : ∀ i : Nat, i ≤ b.length → bset (b.take i) < 2 ^ 10 := fun i _ => bset_lt (fun x hx => h.1.2 x (List.mem_of_mem_take hx))
  rw [e_X12_servedSet]
  refine (lp_0 (fun i : Nat => EV d T_X12_servedSet 1 [some (jR 69), some (jI (bset (b.take i) : Nat)), some (jI i)] [] μ) b.length (fun i hi => ?_)).trans ?_
  · have hx : b.getD i 0 < 10 := h.1.2 _ (by rw [List.getD_eq_getElem?_getD, List.getElem?_eq_getElem hi]; exact List.getElem_mem hi)
    have h2 := bt i (by omega)
    have h3 := p2_le (show b.getD i 0 ≤ 10 by omega)
    rw [e_X12_servedSet_1, h.2.1, if_pos (by omega), gd_t (by omega), h.2.2 i hi, shl_1 _ (by omega), or_nn _ _ (by omega) (by omega), w_s _ (by omega)]
    have e : b.take (i + 1) = b.take i ++ [b.getD i 0] := by
      rw [List.take_succ, List.getD_eq_getElem?_getD, List.getElem?_eq_getElem hi]
      rfl
    rw [e, bset_snoc]
  · rw [e_X12_servedSet_1, h.2.1, if_neg (by omega), List.take_length]
theorem c_X12_servedLast (d : Nat) {μ : jM} {b : List Nat} (h : SR μ b) : CL (d + 1) 244 [jR 69] μ = rI (lno (bla b)) μ := by
  have hl := Bok_len h.1
  rw [e_X12_servedLast, h.2.1]
  by_cases hz : b = []
  · subst hz
    rfl
  · have hp : 0 < b.length := List.length_pos_iff.mpr hz
    have hb := h.1.2 _ (bla_mem hz)
    rw [if_neg (by omega), w_id (by omega) (by omega), gd_t (by omega)]
    have e : (b.length : Int) - 1 = ((b.length - 1 : Nat) : Int) := by omega
    rw [e, h.2.2 _ (by omega), ← bla_at hz]
    unfold lno
    rw [if_neg (by omega)]
theorem c_X12_place (d : Nat) (μ : jM) (s l : Nat) (hs : s < 1024) (hl : l ≤ 10) : CL (d + 1) 260 [jI s, jI (lno l)] μ = rI ((11 * s + l : Nat) : Int) μ := by
  rw [e_X12_place]
  by_cases h : l = 10
  · have e : lno l = -1 := if_pos h
    rw [if_pos e, h]
    simp (disch := omega) only [w_id]
    congr 1
  · have e : lno l = (l : Int) := if_neg h
    rw [if_neg (by omega), e]
    simp (disch := omega) only [w_id]
    congr 1
theorem c_X12_all (d : Nat) {μ : jM} {k : Kt} (h : KR μ k) : CL (d + 1) 261 [jR 69] μ = rI ((2 ^ kn k - 1 : Nat) : Int) μ := by
  obtain ⟨⟨hn, -⟩, h1, -⟩ := h
  rw [e_X12_all, h1, shl_1 _ (by omega)]
  have h2 : 2 ^ kn k ≤ 2 ^ 10 := p2_le hn
  have h3 := Nat.two_pow_pos (kn k)
  rw [w_id (by omega) (by omega)]
  congr 1
  omega
/-- is it a state: a set, and one of it as the last -/
def ist (s l : Nat) : Bool := if l = 10 then s == 0 else s.testBit l
theorem c_X12_isState (d : Nat) (μ : jM) (s l : Nat) (hs : s < 1024) (hl : l ≤ 10) : CL (d + 2) 263 [jI s, jI (lno l)] μ = rI (if ist s l then 1 else 0) μ := by
  rw [e_X12_isState]
  unfold lno ist
  by_cases h : l = 10
  · rw [if_pos h, if_pos rfl, if_pos h]
    by_cases hz : s = 0
    · rw [hz]
      rfl
    · rw [if_neg (by omega)]
      have : (s == 0) = false := by simpa using hz
      rw [this]
      rfl
  · rw [if_neg h, if_neg (by omega), if_neg h, c_X12_has _ _ s l (by omega) (by omega), bI_r]
    cases s.testBit l <;> rfl
