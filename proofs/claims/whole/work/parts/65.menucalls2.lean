/-! ## further calls on MENUS: the class -/
theorem c_X4_cook (d : Nat) {μ : jM} {p : Nat} {m : List Nat} {k : Kt} (h : MI μ p m) (hk : KI μ k) (hm : ∀ i, i < m.length → m.getD i 10 < kn k) (hl10 : m.length ≤ 10) (n : Nat) (hn : 1 ≤ n ∧ n ≤ 9) (hr : RI μ []) : ∃ μ', CL (d + 3) 73 [jR p, jR 3, jI n, jR 50] μ = rI (ckl k m n m.length) μ' ∧ (∀ q, q ≠ p + 2 → q ≠ 50 → q ≠ 51 → μ' q = μ q) ∧ RI μ' (ckr k m n m.length) := by
  obtain ⟨h1, -, h3, -, -, h6, h7⟩ := isM_f h.1
  have hp51 : p = 23 ∨ 52 ≤ p := by rcases h.1 with z | z | z | z <;> omega
  have h10 := hk.1.1
  have hho : ∀ i, mho k m i ≤ 9 ∨ m.length ≤ i := fun i => by
    by_cases hi : i < m.length
    · exact Or.inl (mho_ok hk.1 hm i hi)
    · exact Or.inr (by omega)
  -- bounds as long as the places are there
  have fb : ∀ i, i ≤ m.length → ∀ o, 0 ≤ ckf k m n i o ∧ ckf k m n i o ≤ 9 * i := by
    intro i
    induction i with
    | zero =>
      intro _ o
      show 0 ≤ (0 : Int) ∧ (0 : Int) ≤ 9 * ((0 : Nat) : Int)
      omega
    | succ i ih =>
      intro hi o
      have a := ih (by omega) o
      have b := mho_ok hk.1 hm i (by omega)
      show 0 ≤ (if o = amn (ckf k m n i) n then ckf k m n i o + mho k m i else ckf k m n i o) ∧ (if o = amn (ckf k m n i) n then ckf k m n i o + mho k m i else ckf k m n i o) ≤ 9 * ((i + 1 : Nat) : Int)
      split <;> omega
  have lb : ∀ i, i ≤ m.length → 0 ≤ ckl k m n i ∧ ckl k m n i ≤ 9 * i := by
    intro i
    induction i with
    | zero =>
      intro _
      show 0 ≤ (0 : Int) ∧ (0 : Int) ≤ 9 * ((0 : Nat) : Int)
      omega
    | succ i ih =>
      intro hi
      have a := ih (by omega)
      have b := mho_ok hk.1 hm i (by omega)
      have c := fb i (by omega) (amn (ckf k m n i) n)
      show 0 ≤ max (ckl k m n i) (ckf k m n i (amn (ckf k m n i) n) + mho k m i - 10 - i) ∧ max (ckl k m n i) (ckf k m n i (amn (ckf k m n i) n) + mho k m i - 10 - i) ≤ 9 * ((i + 1 : Nat) : Int)
      omega
  have hfill : ∀ d, CL (d + 1) 1 [jR (p + 2), jI 0] μ = rV (jpre μ (p + 2) (fun _ => 0) 9) := fun d => c_fill d μ (p + 2) 9 0 h6 h7
  have r0 : RI (jpre μ (p + 2) (fun _ => 0) 9) [] := RI_cg hr (jpre_ne (by omega)) (jpre_ne (by omega))
  obtain ⟨⟨v, μ1⟩, e1, f1, a1, r1, l1⟩ := lp_i (fun (i : Nat) (q : Int × jM) => EV (d + 2) T_X4_cook 1 [some (jR p), some (jR 3), some (jI n), some (jR 50), some (jI q.1), some (jI i), none, none] [] q.2) (fun i q => (∀ r, r ≠ p + 2 → r ≠ 50 → r ≠ 51 → q.2 r = μ r) ∧ (∀ o : Nat, o < 9 → q.2 (p + 2) o = ckf k m n i o) ∧ RI q.2 (ckr k m n i) ∧ q.1 = ckl k m n i) m.length (fun i q hi hI => by
    obtain ⟨v, μ1⟩ := q
    obtain ⟨f1, a1, r1, l1⟩ := hI
    have f1 : ∀ r, r ≠ p + 2 → r ≠ 50 → r ≠ 51 → μ1 r = μ r := f1
    have a1 : ∀ o : Nat, o < 9 → μ1 (p + 2) o = ckf k m n i o := a1
    have r1 : RI μ1 (ckr k m n i) := r1
    have l1 : v = ckl k m n i := l1
    have m1 : MI μ1 p m := MI_cg h (f1 p (by omega) (by omega) (by omega)) (f1 (p + 1) (by omega) (by omega) (by omega))
    have k1 : KI μ1 k := KI_cg hk (fun q _ _ => f1 q (by omega) (by omega) (by omega))
    have hx := hm i hi
    have el : lno (m.getD i 10) = ((m.getD i 10 : Nat) : Int) := if_neg (by omega)
    -- the hearth
    have inner : EV (d + 2) T_X4_cook 2 [some (jR p), some (jR 3), some (jI n), some (jR 50), some (jI v), some (jI i), some (jI 0), some (jI 1)] [] μ1 = EV (d + 2) T_X4_cook 2 [some (jR p), some (jR 3), some (jI n), some (jR 50), some (jI v), some (jI i), some (jI (amn (ckf k m n i) n : Nat)), some (jI n)] [] μ1 := by
      have := lp_0 (fun x : Nat => EV (d + 2) T_X4_cook 2 [some (jR p), some (jR 3), some (jI n), some (jR 50), some (jI v), some (jI i), some (jI (amn (ckf k m n i) (x + 1) : Nat)), some (jI (x + 1 : Nat))] [] μ1) (n - 1) (fun x hx => by
        have ha := amn_lt (ckf k m n i) (x + 1)
        have es : amn (ckf k m n i) (x + 1 + 1) = if ckf k m n i (x + 1) < ckf k m n i (amn (ckf k m n i) (x + 1)) then x + 1 else amn (ckf k m n i) (x + 1) := rfl
        rw [e_X4_cook_2]
        simp only [cd_t h1, h3, cb_a h6, cd_t h6, h7]
        rw [if_pos (by omega), if_pos (by omega), gd_t (by omega), gd_t (by omega), a1 _ (by omega), a1 _ (by omega), w_s (x + 1) (by omega), es]
        by_cases hlt : ckf k m n i (x + 1) < ckf k m n i (amn (ckf k m n i) (x + 1))
        · rw [if_pos hlt, if_pos hlt]
        · rw [if_neg hlt, if_neg hlt])
      have e0 : (n - 1) + 1 = n := by omega
      rw [e0] at this
      have e1 : amn (ckf k m n i) (0 + 1) = 0 := amn_1 _
      rw [e1] at this
      exact this
    let A := amn (ckf k m n i) n
    have hA : A < 9 := by
      have : amn (ckf k m n i) n ≤ n - 1 := amn_lt (ckf k m n i) n
      show amn (ckf k m n i) n < 9
      omega
    have hfb := fb i (by omega) A
    have hmb := mho_ok hk.1 hm i hi
    have hlb := lb i (by omega)
    let u : Int := cky k m n i
    have hu : u = ckf k m n i A + mho k m i := rfl
    let μ2 : jM := jup μ1 (p + 2) (A : Nat) u
    have r2 : RI μ2 (ckr k m n i) := RI_cg r1 (jup_ne (by omega)) (jup_ne (by omega))
    obtain ⟨μ3, e3, f3, r3⟩ := c_X7_add (d + 1) r2 u (by rw [ckr_len]; omega)
    have v3 : μ3 (p + 2) (A : Nat) = u := by
      rw [f3 (p + 2) (by omega) (by omega)]
      exact jup_r _ _ _ _
    refine ⟨(ckl k m n (i + 1), μ3), ?_, fun r h1 h2 h3 => (f3 r h2 h3).trans ((jup_ne h1).trans (f1 r h1 h2 h3)), fun o ho => ?_, r3, rfl⟩
    · show EV (d + 2) T_X4_cook 1 [some (jR p), some (jR 3), some (jI n), some (jR 50), some (jI v), some (jI i), none, none] [] μ1 = _
      rw [e_X4_cook_1]
      simp only [cd_t h1, m1.2.2.1]
      rw [if_pos (by omega), inner, e_X4_cook_2]
      simp only [cd_t h1, h3, cb_a h6, cd_t h6, h7]
      rw [if_neg (by omega), gd_t (by omega), c_X4_at _ m1 i (by omega), bI_r, el, c_X1_hoursOf _ k1 _ hx, bI_r, gd_t (by omega), gd_t (by omega), a1 A hA, w_id (x := ckf k m n i A + (kho k (m.getD i 10) : Nat)) (by have : mho k m i = kho k (m.getD i 10) := rfl; omega) (by have : mho k m i = kho k (m.getD i 10) := rfl; omega)]
      show bV (CL _ _ [jR 50, jI (μ2 (p + 2) (A : Nat))] μ2) _ = _
      rw [show μ2 (p + 2) (A : Nat) = u from jup_r _ _ _ _, e3, bV_r, gd_t (by omega), v3, w_id (x := u - 10) (by omega) (by omega), w_id (x := u - 10 - (i : Int)) (by omega) (by omega), w_s i (by omega), l1]
      rfl
    · show μ3 (p + 2) (o : Nat) = (if o = A then ckf k m n i o + mho k m i else ckf k m n i o)
      rw [f3 (p + 2) (by omega) (by omega)]
      by_cases hoA : o = A
      · rw [hoA, if_pos rfl]
        exact jup_r _ _ _ _
      · rw [if_neg hoA]
        exact (jup_m (by omega)).trans (a1 o ho)) (0, jpre μ (p + 2) (fun _ => 0) 9) ⟨fun r h1 _ _ => (by show jpre μ (p + 2) (fun _ => 0) 9 r = μ r; exact jpre_ne h1), fun o ho => (by show jpre μ (p + 2) (fun _ => 0) 9 (p + 2) (o : Int) = 0; exact jpre_lo (g := fun _ => 0) ho), r0, rfl⟩
  refine ⟨μ1, ?_, f1, r1⟩
  rw [e_X4_cook, cd_t h1, h3, hfill, bV_r]
  refine Eq.trans e1 ?_
  have l1 : v = ckl k m n m.length := l1
  have f1 : ∀ r, r ≠ p + 2 → r ≠ 50 → r ≠ 51 → μ1 r = μ r := f1
  have m1 : MI μ1 p m := MI_cg h (f1 p (by omega) (by omega) (by omega)) (f1 (p + 1) (by omega) (by omega) (by omega))
  show EV (d + 2) T_X4_cook 1 [some (jR p), some (jR 3), some (jI n), some (jR 50), some (jI v), some (jI (m.length : Nat)), none, none] [] μ1 = _
  rw [e_X4_cook_1]
  simp only [cd_t h1, m1.2.2.1]
  rw [if_neg (by omega), l1]
theorem whol_k {k : Kt} {M : Mn} (hok : Mkk k M) {a : Int} (h : whol M a = true) : ∃ i : Nat, i < 3 ∧ a = (i : Int) ∧ 0 < (M i).length ∧ ∀ j, j < (M i).length → (M i).getD j 10 < kn k := by
  have h1 := Bool.and_eq_true_iff.mp h
  obtain ⟨i, hi, rfl, hp⟩ := laid_i h1.1
  rw [Int.toNat_natCast] at h1
  exact ⟨i, hi, rfl, hp, whl_k (hok i hi) h1.2⟩
theorem mcap3 (i : Nat) : mcap (52 + 3 * i) = 10 := by
  unfold mcap
  rw [if_neg (by omega)]
theorem c_X11_late (d : Nat) {μ : jM} {k : Kt} {M : Mn} {r : List Int} (hk : KI μ k) (hM : MC μ M) (hok : Mkk k M) (hr : RI μ r) (a n : Int) : ∃ μ', CL (d + 4) 196 [jR 0, jI a, jI n] μ = rI (if 1 ≤ n ∧ n ≤ 9 then (if whol M a then ckl k (M a.toNat) n.toNat (M a.toNat).length else -3) else -1) μ' ∧ fC μ' μ ∧ RI μ' (if 1 ≤ n ∧ n ≤ 9 ∧ whol M a = true then ckr k (M a.toNat) n.toNat (M a.toNat).length else r) := by
  rw [e_X11_late]
  by_cases hn : 1 ≤ n ∧ n ≤ 9
  · obtain ⟨x, rfl⟩ := Int.eq_ofNat_of_zero_le (show 0 ≤ n by omega)
    rw [if_neg (by omega), if_neg (by omega), c_X11_isWhole _ hM, bI_r, if_pos hn, Int.toNat_natCast]
    cases hl : whol M a with
    | false => exact ⟨μ, rfl, fC_r μ, by rw [if_neg (fun z => by cases z.2.2)]; exact hr⟩
    | true =>
      obtain ⟨i, hi, rfl, hp, hkn⟩ := whol_k hok hl
      have hl10 := (hM i hi).2.1
      rw [mcap3] at hl10
      obtain ⟨μ1, e1, f1, r1⟩ := c_X7_clear (d + 2) (μ := μ)
      have c1 := fC_row f1
      obtain ⟨μ2, e2, f2, r2⟩ := c_X4_cook d (fC_MC c1 hM i hi) (fC_KI c1 hk) hkn hl10 x (by omega) r1
      refine ⟨μ2, ?_, fC_t c1 ⟨fun q hq => f2 q (by omega) (by omega) (by omega), by rw [f2 12 (by omega) (by decide) (by decide)]⟩, ?_⟩
      · rw [z_t, e1, bV_r, gd_t (by omega), RF_22 i hi, cd_t (isM_f (hM i hi).1).1, e2, bI_r, if_pos rfl, Int.toNat_natCast]
      · rw [if_pos ⟨hn.1, hn.2, rfl⟩, Int.toNat_natCast]
        exact r2
  · rw [if_neg hn, if_neg (show ¬ (1 ≤ n ∧ n ≤ 9 ∧ whol M a = true) from fun z => hn ⟨z.1, z.2.1⟩)]
    refine ⟨μ, ?_, fC_r μ, hr⟩
    by_cases h1 : n < 1
    · rw [if_pos h1]
    · rw [if_neg h1, if_pos (by omega)]
def mhr (k : Kt) (m : List Nat) : Nat → List Int
  | 0 => []
  | i + 1 => mhr k m i ++ [10 + (i : Int) - mho k m i]
theorem mhr_len (k : Kt) (m : List Nat) : ∀ i, (mhr k m i).length = i
  | 0 => rfl
  | i + 1 => by
    show (mhr k m i ++ [_]).length = i + 1
    rw [List.length_append, mhr_len k m i]
    rfl
theorem c_X11_hearths (d : Nat) {μ : jM} {k : Kt} {M : Mn} {r : List Int} (hk : KI μ k) (hM : MC μ M) (hok : Mkk k M) (hr : RI μ r) (a : Int) : ∃ μ', CL (d + 4) 195 [jR 0, jI a] μ = rI (if whol M a then (mmo k (M a.toNat) 20 : Nat) else -3) μ' ∧ fC μ' μ ∧ RI μ' (if whol M a then mhr k (M a.toNat) (M a.toNat).length else r) := by
  rw [e_X11_hearths, c_X11_isWhole _ hM, bI_r]
  cases hl : whol M a with
  | false => exact ⟨μ, rfl, fC_r μ, hr⟩
  | true =>
    obtain ⟨i, hi, rfl, hp, hkn⟩ := whol_k hok hl
    have hl10 := (hM i hi).2.1
    rw [mcap3] at hl10
    have h1 := (isM_f (hM i hi).1).1
    obtain ⟨μ1, e1, f1, r1⟩ := c_X7_clear (d + 2) (μ := μ)
    have c1 := fC_row f1
    obtain ⟨μ2, e2, c2, r2⟩ := lp_i (fun (j : Nat) (μ1 : jM) => EV (d + 3) T_X11_hearths 1 [some (jR 0), none, some (jR (52 + 3 * i)), some (jI j)] [] μ1) (fun j μ1 => fC μ1 μ ∧ RI μ1 (mhr k (M i) j)) (M i).length (fun j μ1 hj hI => by
      obtain ⟨c1, r1⟩ := hI
      have hm1 := fC_MC c1 hM i hi
      have k1 := fC_KI c1 hk
      have hx := hkn j hj
      have h10 := hk.1.1
      have hho := (hk.1.2.2.1 _ hx).2.2.2.2
      obtain ⟨μ2, e2, f2, r2⟩ := c_X7_add (d + 2) r1 (10 + (j : Int) - mho k (M i) j) (by rw [mhr_len]; omega)
      refine ⟨μ2, ?_, fC_t c1 (fC_row f2), r2⟩
      show EV (d + 3) T_X11_hearths 1 _ [] μ1 = _
      rw [e_X11_hearths_1, cd_t h1, c_X4_size _ hm1, bI_r, if_pos (by omega), cd_t h1, c_X4_at _ hm1 j (by omega), bI_r, show lno ((M i).getD j 10) = (((M i).getD j 10 : Nat) : Int) from if_neg (by omega), c_X1_hoursOf _ k1 _ hx, bI_r, w_id (x := 10 + (j : Int)) (by omega) (by omega), w_id (by omega) (by omega), w_s j (by omega)]
      exact (congrArg (fun o => bV o _) e2).trans rfl) μ1 ⟨c1, r1⟩
    have hm2 := fC_MC c2 hM i hi
    refine ⟨μ2, ?_, c2, ?_⟩
    · rw [z_t, gd_t (by omega), e1, bV_r, RF_22 i hi, if_pos rfl, Int.toNat_natCast]
      refine Eq.trans e2 ?_
      show EV (d + 3) T_X11_hearths 1 _ [] μ2 = _
      rw [e_X11_hearths_1, cd_t h1, c_X4_size _ hm2, bI_r, if_neg (by omega), cd_t h1, c_X4_mostAtOnce _ hm2 (fC_KI c2 hk) hkn, bI_r]
    · rw [if_pos rfl, Int.toNat_natCast]
      exact r2
def mpo (k : Kt) (m : List Nat) (died : Nat) : Nat → Nat
  | 0 => 255
  | g + 1 => if died.testBit g then mpo k m died g &&& mse k m g m.length else nd (mpo k m died g) (mse k m g m.length)
theorem mpo_lt (k : Kt) (m : List Nat) (died : Nat) : ∀ g, mpo k m died g < 256
  | 0 => by
    show 255 < 256
    decide
  | g + 1 => by
    have := mpo_lt k m died g
    show (if died.testBit g then mpo k m died g &&& mse k m g m.length else nd (mpo k m died g) (mse k m g m.length)) < 256
    split
    · exact Nat.lt_of_le_of_lt Nat.and_le_left this
    · exact Nat.lt_of_le_of_lt (nd_le _ _) this
def poA (k : Kt) (M : Mn) (a died : Int) : Int := if 0 ≤ died ∧ died < (2 ^ kg k : Nat) then (if whol M a then (mpo k (M a.toNat) died.toNat (kg k) : Nat) else -3) else -1
theorem c_X11_poison (d : Nat) {μ : jM} {k : Kt} {M : Mn} (hk : KI μ k) (hM : MC μ M) (hok : Mkk k M) (a died : Int) (hd : died < 2147483648) : CL (d + 5) 197 [jR 0, jI a, jI died] μ = rI (poA k M a died) μ := by
  have h6 := hk.1.2.1
  have h2 := p2_le h6
  unfold poA
  rw [e_X11_poison]
  by_cases h0 : died < 0
  · rw [if_pos h0, if_neg (by omega)]
  · obtain ⟨x, rfl⟩ := Int.eq_ofNat_of_zero_le (show 0 ≤ died by omega)
    rw [if_neg h0, e_X1_guests, hk.2.2.1, bI_r, shr_n x (kg k) (by omega) (by omega)]
    by_cases hlt : x < 2 ^ kg k
    · have hz : x / 2 ^ kg k = 0 := Nat.div_eq_of_lt hlt
      rw [hz, if_pos (show ((0 : Nat) : Int) = 0 from rfl), if_pos (by omega), c_X11_isWhole _ hM, bI_r, Int.toNat_natCast]
      cases hl : whol M a with
      | false => rfl
      | true =>
        obtain ⟨i, hi, rfl, hp, hkn⟩ := whol_k hok hl
        have h1 := (isM_f (hM i hi).1).1
        rw [z_t, if_pos rfl, Int.toNat_natCast]
        refine (lp_0 (fun g : Nat => EV (d + 4) T_X11_poison 1 [some (jR 0), some (jI i), some (jI x), some (jI (mpo k (M i) x g : Nat)), some (jI g), none] [] μ) (kg k) (fun g hg => ?_)).trans ?_
        · have hb := mpo_lt k (M i) x g
          have hs := mse_lt hk.1 g (M i).length hkn
          have e : mpo k (M i) x (g + 1) = if x.testBit g then mpo k (M i) x g &&& mse k (M i) g (M i).length else nd (mpo k (M i) x g) (mse k (M i) g (M i).length) := rfl
          rw [e_X11_poison_1, e_X1_guests, hk.2.2.1, bI_r, if_pos (by omega), gd_t (by omega), RF_22 i hi, cd_t h1, c_X4_stuffsEaten _ (hM i hi) hk hkn g hg, bI_r, tb_1 x g (by omega) (by omega), w_s g (by omega), xor_m1 _ (by omega), and_nn _ _ (by omega) (by omega), and_nc _ _ (by omega) (by omega), e]
          cases x.testBit g <;> rfl
        · rw [e_X11_poison_1, e_X1_guests, hk.2.2.1, bI_r, if_neg (by omega)]
    · have hz : 0 < x / 2 ^ kg k := Nat.div_pos (by omega) (Nat.two_pow_pos _)
      rw [if_neg (by omega), if_neg (by omega)]
