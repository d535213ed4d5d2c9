/-! ## MENUS changed, cooked, eaten -/
def mkl (n : Nat) (f : Nat → Nat) : List Nat := (List.range n).map f
theorem mkl_len (n : Nat) (f : Nat → Nat) : (mkl n f).length = n := by
  unfold mkl
  rw [List.length_map, List.length_range]
theorem mkl_at (n : Nat) (f : Nat → Nat) (i : Nat) : (mkl n f).getD i 10 = if i < n then f i else 10 := by
  unfold mkl
  rw [List.getD_eq_getElem?_getD, List.getElem?_map]
  by_cases h : i < n
  · rw [List.getElem?_range h, if_pos h]
    rfl
  · rw [List.getElem?_eq_none (by rw [List.length_range]; omega), if_neg h]
    rfl
theorem mkl_cg {n : Nat} {f g : Nat → Nat} (h : ∀ i, i < n → f i = g i) : mkl n f = mkl n g := by
  unfold mkl
  refine List.map_congr_left (fun i hi => h i (List.mem_range.mp hi))
theorem mkl_id (m : List Nat) : mkl m.length (fun i => m.getD i 10) = m := by
  apply List.ext_getElem
  · rw [mkl_len]
  · intro i h1 h2
    have := mkl_at m.length (fun i => m.getD i 10) i
    rw [if_pos h2, List.getD_eq_getElem?_getD, List.getD_eq_getElem?_getD, List.getElem?_eq_getElem h1, List.getElem?_eq_getElem h2] at this
    exact this
theorem Mok_mkl {n N : Nat} {f : Nat → Nat} (h : ∀ i, i < n → f i = 10 ∨ f i < N) : Mok N (mkl n f) := fun x hx => by
  unfold mkl at hx
  obtain ⟨i, h1, rfl⟩ := List.mem_map.mp hx
  exact h i (List.mem_range.mp h1)
def msw (m : List Nat) (j i : Nat) : List Nat := mkl m.length (fun x => if x = j then m.getD i 10 else if x = i then m.getD j 10 else m.getD x 10)
theorem msw_len (m : List Nat) (j i : Nat) : (msw m j i).length = m.length := mkl_len _ _
theorem msw_ok {n : Nat} {m : List Nat} (h : Mok n m) (j i : Nat) : Mok n (msw m j i) := Mok_mkl (fun x _ => by
  split
  · exact Mok_at h _
  · split
    · exact Mok_at h _
    · exact Mok_at h _)
theorem c_X4_exchange (d : Nat) {μ : jM} {p : Nat} {m : List Nat} (h : MI μ p m) (j i : Int) : ∃ μ', CL (d + 2) 64 [jR p, jI j, jI i] μ = rI (if 0 ≤ j ∧ j < m.length ∧ 0 ≤ i ∧ i < m.length ∧ j ≠ i then 1 else 0) μ' ∧ (∀ q, q ≠ p + 1 → μ' q = μ q) ∧ MI μ' p (if 0 ≤ j ∧ j < m.length ∧ 0 ≤ i ∧ i < m.length ∧ j ≠ i then msw m j.toNat i.toNat else m) := by
  have h1 := (isM_f h.1).1
  have hl := h.2.1
  have hc := mcap_le p
  rw [e_X4_exchange]
  simp only [cd_t h1, h.2.2.1]
  by_cases ha : 0 ≤ j ∧ j < m.length ∧ 0 ≤ i ∧ i < m.length ∧ j ≠ i
  · obtain ⟨a1, a2, a3, a4, a5⟩ := ha
    obtain ⟨x, rfl⟩ := Int.eq_ofNat_of_zero_le a1
    obtain ⟨y, rfl⟩ := Int.eq_ofNat_of_zero_le a3
    have hxy : x ≠ y := fun z => a5 (by rw [z])
    rw [if_neg (by omega), if_pos (by omega), if_neg (by omega), if_pos (by omega), if_neg a5, c_X4_at _ h x (by omega), bI_r, c_X4_at _ h y (by omega), bI_r, c_X4_put _ h.1 x (by omega), bV_r, c_X4_put _ h.1 y (by omega), bV_r, gd_t (by decide)]
    refine ⟨jup (jup μ (p + 1) x (lno (m.getD y 10))) (p + 1) y (lno (m.getD x 10)), ?_, fun q hq => by rw [jup_ne hq, jup_ne hq], ?_⟩
    · rw [if_pos ⟨a1, a2, a3, a4, a5⟩]
    · rw [if_pos ⟨a1, a2, a3, a4, a5⟩, Int.toNat_natCast, Int.toNat_natCast]
      refine ⟨h.1, by rw [msw_len]; exact hl, ?_, fun q hq => ?_⟩
      · rw [jup_n (by omega), jup_n (by omega), msw_len]
        exact h.2.2.1
      · rw [msw_len] at hq
        unfold msw
        rw [mkl_at, if_pos hq]
        by_cases h2 : q = y
        · rw [h2, jup_r, if_neg (Ne.symm hxy), if_pos rfl]
        · rw [jup_m (by omega)]
          by_cases h3 : q = x
          · rw [h3, jup_r, if_pos rfl]
          · rw [jup_m (by omega), if_neg h3, if_neg h2]
            exact h.2.2.2 q hq
  · rw [if_neg ha, if_neg ha]
    refine ⟨μ, ?_, fun _ _ => rfl, h⟩
    by_cases a1 : j < 0
    · rw [if_pos a1]
      rfl
    · rw [if_neg a1]
      by_cases a2 : j < m.length
      · rw [if_pos a2]
        by_cases a3 : i < 0
        · rw [if_pos a3]
          rfl
        · rw [if_neg a3]
          by_cases a4 : i < m.length
          · rw [if_pos a4, if_pos (by
              by_cases z : j = i
              · exact z
              · exact absurd ⟨by omega, a2, by omega, a4, z⟩ ha)]
            rfl
          · rw [if_neg a4]
            rfl
      · rw [if_neg a2]
        rfl
/-- turned round, the first i pairs -/
def mrp (m : List Nat) (i : Nat) : List Nat := mkl m.length (fun x => if x < i ∨ m.length ≤ x + i then m.getD (m.length - 1 - x) 10 else m.getD x 10)
def mrv (m : List Nat) : List Nat := mkl m.length (fun x => m.getD (m.length - 1 - x) 10)
theorem mrv_ok {n : Nat} {m : List Nat} (h : Mok n m) : Mok n (mrv m) := Mok_mkl (fun _ _ => Mok_at h _)
theorem mrp_0 (m : List Nat) : mrp m 0 = m := by
  refine (mkl_cg (fun i hi => ?_)).trans (mkl_id m)
  rw [if_neg (by omega)]
theorem mrp_s (m : List Nat) (i : Nat) (hi : 2 * i + 1 < m.length) : msw (mrp m i) i (m.length - 1 - i) = mrp m (i + 1) := by
  unfold msw
  rw [show (mrp m i).length = m.length from mkl_len _ _]
  have A : ∀ z, z < m.length → (mrp m i).getD z 10 = if z < i ∨ m.length ≤ z + i then m.getD (m.length - 1 - z) 10 else m.getD z 10 := fun z hz => by
    unfold mrp
    rw [mkl_at, if_pos hz]
  refine mkl_cg (fun x hx => ?_)
  by_cases h1 : x = i
  · rw [if_pos h1, A _ (by omega), if_neg (by omega), if_pos (by omega), h1]
  · rw [if_neg h1]
    by_cases h2 : x = m.length - 1 - i
    · rw [if_pos h2, A _ (by omega), if_neg (by omega), if_pos (by omega), h2]
      congr 1
      omega
    · rw [if_neg h2, A _ hx]
      by_cases h3 : x < i ∨ m.length ≤ x + i
      · rw [if_pos h3, if_pos (by omega)]
      · rw [if_neg h3, if_neg (by omega)]
theorem mrp_end (m : List Nat) : mrp m (m.length / 2) = mrv m := mkl_cg (fun x hx => by
  by_cases h : x < m.length / 2 ∨ m.length ≤ x + m.length / 2
  · rw [if_pos h]
  · rw [if_neg h]
    congr 1
    omega)
theorem jdiv2 : ∀ n : Nat, n < 21 → jdiv (n : Int) 2 = ((n / 2 : Nat) : Int) := by decide +kernel
theorem c_X4_reverse (d : Nat) {μ : jM} {p : Nat} {m : List Nat} (h : MI μ p m) : ∃ μ', CL (d + 3) 65 [jR p] μ = rV μ' ∧ (∀ q, q ≠ p + 1 → μ' q = μ q) ∧ MI μ' p (mrv m) := by
  have h1 := (isM_f h.1).1
  have hl := h.2.1
  have hc := mcap_le p
  obtain ⟨μ', e1, f1, i1⟩ := lp_i (fun (i : Nat) (μ1 : jM) => EV (d + 2) T_X4_reverse 1 [some (jR p), some (jI i)] [] μ1) (fun i μ1 => (∀ q, q ≠ p + 1 → μ1 q = μ q) ∧ MI μ1 p (mrp m i)) (m.length / 2) (fun i μ1 hi hI => by
    obtain ⟨f1, i1⟩ := hI
    have hlen : (mrp m i).length = m.length := mkl_len _ _
    have i3 := i1.2.2.1
    rw [hlen] at i3
    obtain ⟨μ2, e2, f2, i2⟩ := c_X4_exchange d i1 i ((m.length - 1 - i : Nat) : Int)
    rw [hlen] at e2 i2
    rw [if_pos (by omega)] at e2 i2
    rw [Int.toNat_natCast, Int.toNat_natCast, mrp_s m i (by omega)] at i2
    refine ⟨μ2, ?_, fun q hq => (f2 q hq).trans (f1 q hq), i2⟩
    show EV (d + 2) T_X4_reverse 1 _ [] μ1 = _
    rw [e_X4_reverse_1]
    simp only [cd_t h1, i3]
    have ea : w32 (w32 ((m.length : Int) - 1) - (i : Int)) = ((m.length - 1 - i : Nat) : Int) := by
      rw [w_id (x := (m.length : Int) - 1) (by omega) (by omega), w_id (by omega) (by omega)]
      omega
    rw [gd_t (by decide), jdiv2 _ (by omega), if_pos (by omega), ea, e2, bI_r, w_s i (by omega)]) μ ⟨fun _ _ => rfl, by rw [mrp_0]; exact h⟩
  have hlen : (mrp m (m.length / 2)).length = m.length := mkl_len _ _
  have i3 := i1.2.2.1
  rw [hlen] at i3
  rw [mrp_end] at i1
  refine ⟨μ', ?_, f1, i1⟩
  rw [e_X4_reverse]
  refine Eq.trans e1 ?_
  show EV (d + 2) T_X4_reverse 1 _ [] μ' = _
  rw [e_X4_reverse_1]
  simp only [cd_t h1, i3]
  rw [gd_t (by decide), jdiv2 _ (by omega), if_neg (by omega)]
/-! ### hearths -/
def mho (k : Kt) (m : List Nat) (j : Nat) : Nat := kho k (m.getD j 10)
def mhc (k : Kt) (m : List Nat) (h i : Nat) : Nat := cnt (fun j => decide ((10 + j : Int) - mho k m j ≤ h) && decide (h < 10 + j)) i
def mmo (k : Kt) (m : List Nat) : Nat → Nat
  | 0 => 0
  | h + 1 => max (mmo k m h) (mhc k m h m.length)
theorem c_X4_mostAtOnce (d : Nat) {μ : jM} {p : Nat} {m : List Nat} {k : Kt} (h : MI μ p m) (hk : KI μ k) (hm : ∀ i, i < m.length → m.getD i 10 < kn k) : CL (d + 3) 72 [jR p, jR 3] μ = rI (mmo k m 20 : Nat) μ := by
  have h1 := (isM_f h.1).1
  have hl := h.2.1
  have hc := mcap_le p
  have mm : ∀ i, mmo k m i ≤ 20 := fun i => by
    induction i with
    | zero => exact Nat.zero_le _
    | succ i ih =>
      have := cnt_le (fun j => decide ((10 + j : Int) - mho k m j ≤ i) && decide (i < 10 + j)) m.length
      show max (mmo k m i) (mhc k m i m.length) ≤ 20
      unfold mhc
      omega
  rw [e_X4_mostAtOnce]
  refine (lp_0 (fun i : Nat => EV (d + 2) T_X4_mostAtOnce 1 [some (jR p), some (jR 3), some (jI (mmo k m i : Nat)), some (jI i), none, none, none] [] μ) 20 (fun hr hhr => ?_)).trans ?_
  · rw [e_X4_mostAtOnce_1, if_pos (by omega)]
    refine (lp_0 (fun i : Nat => EV (d + 2) T_X4_mostAtOnce 2 [some (jR p), some (jR 3), some (jI (mmo k m hr : Nat)), some (jI hr), some (jI (mhc k m hr i : Nat)), some (jI i), none] [] μ) m.length (fun i hi => ?_)).trans ?_
    · have hx := hm i hi
      have h10 := hk.1.1
      have hho := (hk.1.2.2.1 _ hx).2.2.2.2
      have hcn := cnt_le (fun j => decide ((10 + j : Int) - mho k m j ≤ hr) && decide (hr < 10 + j)) i
      have e : mhc k m hr (i + 1) = mhc k m hr i + (if (decide ((10 + i : Int) - mho k m i ≤ hr) && decide (hr < 10 + i)) then 1 else 0) := rfl
      have hcn : mhc k m hr i ≤ i := hcn
      rw [e_X4_mostAtOnce_2]
      simp only [cd_t h1, h.2.2.1]
      rw [if_pos (by omega), c_X4_at _ h i (by omega), bI_r, show lno (m.getD i 10) = ((m.getD i 10 : Nat) : Int) from if_neg (by omega), c_X1_hoursOf _ hk _ hx, bI_r, w_id (x := 10 + (i : Int)) (by omega) (by omega), w_id (x := 10 + (i : Int) - _) (by omega) (by omega), w_s i (by omega), e]
      show (if (hr : Int) < 10 + (i : Int) - (mho k m i : Nat) then _ else _) = _
      have hmh : mho k m i = kho k (m.getD i 10) := rfl
      by_cases c1 : (hr : Int) < 10 + (i : Int) - (mho k m i : Nat)
      · rw [if_pos c1, decide_eq_false (show ¬ (10 + i : Int) - mho k m i ≤ hr by omega), Bool.false_and, if_neg (by decide), w_id (by omega) (by omega)]
        rfl
      · rw [if_neg c1, decide_eq_true (show (10 + i : Int) - mho k m i ≤ hr by omega), Bool.true_and]
        by_cases c2 : hr < 10 + i
        · rw [if_pos (by omega), decide_eq_true c2, if_pos rfl, w_id (by omega) (by omega)]
          rfl
        · rw [if_neg (by omega), decide_eq_false c2, if_neg (by decide), w_id (by omega) (by omega)]
          rfl
    · rw [e_X4_mostAtOnce_2]
      simp only [cd_t h1, h.2.2.1]
      rw [if_neg (by omega), w_s hr (by omega)]
      have e : mmo k m (hr + 1) = max (mmo k m hr) (mhc k m hr m.length) := rfl
      rw [e]
      congr 1
      have : max ((mmo k m hr : Nat) : Int) ((mhc k m hr m.length : Nat) : Int) = ((max (mmo k m hr) (mhc k m hr m.length) : Nat) : Int) := by omega
      rw [this]
  · rw [e_X4_mostAtOnce_1, if_neg (by decide)]
/-- which hearth is free first -/
def amn (f : Nat → Int) : Nat → Nat
  | 0 => 0
  | n + 1 => if f n < f (amn f n) then n else amn f n
theorem amn_lt (f : Nat → Int) : ∀ n, amn f n ≤ n - 1
  | 0 => Nat.le_refl 0
  | n + 1 => by
    have := amn_lt f n
    show (if f n < f (amn f n) then n else amn f n) ≤ n + 1 - 1
    split <;> omega
theorem amn_1 (f : Nat → Int) : amn f 1 = 0 := if_neg (Int.lt_irrefl _)
def ckf (k : Kt) (m : List Nat) (h : Nat) : Nat → Nat → Int
  | 0 => fun _ => 0
  | i + 1 => fun o => if o = amn (ckf k m h i) h then ckf k m h i o + mho k m i else ckf k m h i o
def cky (k : Kt) (m : List Nat) (h i : Nat) : Int := ckf k m h i (amn (ckf k m h i) h) + mho k m i
def ckl (k : Kt) (m : List Nat) (h : Nat) : Nat → Int
  | 0 => 0
  | i + 1 => max (ckl k m h i) (cky k m h i - 10 - i)
def ckr (k : Kt) (m : List Nat) (h : Nat) : Nat → List Int
  | 0 => []
  | i + 1 => ckr k m h i ++ [cky k m h i]
theorem ckr_len (k : Kt) (m : List Nat) (h : Nat) : ∀ i, (ckr k m h i).length = i
  | 0 => rfl
  | i + 1 => by
    show (ckr k m h i ++ [cky k m h i]).length = i + 1
    rw [List.length_append, ckr_len k m h i]
    rfl
theorem ckf_b {k : Kt} {m : List Nat} (hm : ∀ i, mho k m i ≤ 9) (h : Nat) : ∀ i o, 0 ≤ ckf k m h i o ∧ ckf k m h i o ≤ 9 * i
  | 0, _ => by
    show 0 ≤ (0 : Int) ∧ (0 : Int) ≤ 9 * ((0 : Nat) : Int)
    omega
  | i + 1, o => by
    have h1 := ckf_b hm h i o
    have h2 := hm i
    show 0 ≤ (if o = amn (ckf k m h i) h then ckf k m h i o + mho k m i else ckf k m h i o) ∧ (if o = amn (ckf k m h i) h then ckf k m h i o + mho k m i else ckf k m h i o) ≤ 9 * ((i + 1 : Nat) : Int)
    split <;> omega
theorem ckl_b {k : Kt} {m : List Nat} (hm : ∀ i, mho k m i ≤ 9) (h : Nat) : ∀ i, 0 ≤ ckl k m h i ∧ ckl k m h i ≤ 9 * i
  | 0 => by
    show 0 ≤ (0 : Int) ∧ (0 : Int) ≤ 9 * ((0 : Nat) : Int)
    omega
  | i + 1 => by
    have h1 := ckl_b hm h i
    have h2 := ckf_b hm h i (amn (ckf k m h i) h)
    have h3 := hm i
    show 0 ≤ max (ckl k m h i) (ckf k m h i (amn (ckf k m h i) h) + mho k m i - 10 - i) ∧ max (ckl k m h i) (ckf k m h i (amn (ckf k m h i) h) + mho k m i - 10 - i) ≤ 9 * ((i + 1 : Nat) : Int)
    omega
theorem mho_ok {k : Kt} (hk : Kok k) {m : List Nat} (hm : ∀ i, i < m.length → m.getD i 10 < kn k) (i : Nat) (hi : i < m.length) : mho k m i ≤ 9 := (hk.2.2.1 _ (hm i hi)).2.2.2.2
/-! ### eaten -/
def mse (k : Kt) (m : List Nat) (g : Nat) : Nat → Nat
  | 0 => 0
  | i + 1 => mse k m g i ||| (if khu k g (m.getD i 10) then 0 else kst k (m.getD i 10))
theorem mse_lt {k : Kt} (hk : Kok k) {m : List Nat} (g : Nat) : ∀ i, (∀ j, j < i → m.getD j 10 < kn k) → mse k m g i < 256
  | 0, _ => by
    show 0 < 256
    decide
  | i + 1, h => by
    refine Nat.or_lt_two_pow (n := 8) (mse_lt hk g i (fun j hj => h j (by omega))) ?_
    split
    · decide
    · exact (hk.2.2.1 _ (h i (by omega))).2.1
theorem c_X4_stuffsEaten (d : Nat) {μ : jM} {p : Nat} {m : List Nat} {k : Kt} (h : MI μ p m) (hk : KI μ k) (hm : ∀ i, i < m.length → m.getD i 10 < kn k) (g : Nat) (hg : g < kg k) : CL (d + 4) 75 [jR p, jR 3, jI g] μ = rI (mse k m g m.length : Nat) μ := by
  have h1 := (isM_f h.1).1
  have hl := h.2.1
  have hc := mcap_le p
  have h10 := hk.1.1
  rw [e_X4_stuffsEaten]
  refine (lp_0 (fun i : Nat => EV (d + 3) T_X4_stuffsEaten 1 [some (jR p), some (jR 3), some (jI g), some (jI (mse k m g i : Nat)), some (jI i)] [] μ) m.length (fun i hi => ?_)).trans ?_
  · have hx := hm i hi
    have hb := mse_lt hk.1 g i (fun j hj => hm j (by omega))
    have hst := (hk.1.2.2.1 _ hx).2.1
    have e : mse k m g (i + 1) = mse k m g i ||| (if khu k g (m.getD i 10) then 0 else kst k (m.getD i 10)) := rfl
    have e0 := or_nn (mse k m g i) 0 (by omega) (by decide)
    have el : lno (m.getD i 10) = ((m.getD i 10 : Nat) : Int) := if_neg (by omega)
    rw [e_X4_stuffsEaten_1]
    simp only [cd_t h1, h.2.2.1]
    rw [if_pos (by omega), c_X4_at _ h i (by omega), bI_r, el, c_X1_isHungry _ hk g _ hg hx, bI_r, w_s i (by omega), e]
    cases khu k g (m.getD i 10) with
    | true =>
      rw [if_pos rfl, if_neg (by decide), if_pos rfl, ← e0]
      rfl
    | false => rw [z_f, c_X4_at _ h i (by omega), bI_r, el, c_X1_stuffsOf _ hk _ hx, bI_r, or_nn _ _ (by omega) (by omega), if_neg (by decide)]
  · rw [e_X4_stuffsEaten_1]
    simp only [cd_t h1, h.2.2.1]
    rw [if_neg (by omega)]
def mpe (k : Kt) (m : List Nat) (g i : Nat) : Nat := bm (fun j => !khu k g (m.getD j 10)) i
theorem c_X4_placesEaten (d : Nat) {μ : jM} {p : Nat} {m : List Nat} {k : Kt} (h : MI μ p m) (hk : KI μ k) (hm : ∀ i, i < m.length → m.getD i 10 < kn k) (g : Nat) (hg : g < kg k) : CL (d + 4) 74 [jR p, jR 3, jI g] μ = rI (mpe k m g m.length : Nat) μ := by
  have h1 := (isM_f h.1).1
  have hl := h.2.1
  have hc := mcap_le p
  have h10 := hk.1.1
  rw [e_X4_placesEaten]
  refine (lp_0 (fun i : Nat => EV (d + 3) T_X4_placesEaten 1 [some (jR p), some (jR 3), some (jI g), some (jI (mpe k m g i : Nat)), some (jI i)] [] μ) m.length (fun i hi => ?_)).trans ?_
  · have hx := hm i hi
    have el : lno (m.getD i 10) = ((m.getD i 10 : Nat) : Int) := if_neg (by omega)
    have e := bm_or (fun j => !khu k g (m.getD j 10)) i (by omega)
    rw [e_X4_placesEaten_1]
    simp only [cd_t h1, h.2.2.1]
    rw [if_pos (by omega), c_X4_at _ h i (by omega), bI_r, el, c_X1_isHungry _ hk g _ hg hx, bI_r, w_s i (by omega), shl_1 i (by omega)]
    show _ = EV (d + 3) T_X4_placesEaten 1 [some (jR p), some (jR 3), some (jI g), some (jI (bm (fun j => !khu k g (m.getD j 10)) (i + 1) : Nat)), some (jI (i + 1 : Nat))] [] μ
    rw [← e]
    cases khu k g (m.getD i 10) with
    | true =>
      rw [if_pos rfl, if_neg (by decide)]
      rfl
    | false =>
      rw [z_f]
      rfl
  · rw [e_X4_placesEaten_1]
    simp only [cd_t h1, h.2.2.1]
    rw [if_neg (by omega)]
