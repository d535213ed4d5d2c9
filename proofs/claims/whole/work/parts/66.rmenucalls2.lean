/-! ## further calls on MENUS: the reference -/
theorem amn_cg {f g : Nat → Int} : ∀ {n : Nat}, (∀ o, o < n ∨ o = 0 → f o = g o) → amn f n = amn g n
  | 0, _ => rfl
  | n + 1, h => by
    have ih := amn_cg (n := n) (fun o ho => h o (by omega))
    have ha := amn_lt f n
    show (if f n < f (amn f n) then n else amn f n) = if g n < g (amn g n) then n else amn g n
    rw [← ih, ← h n (Or.inl (Nat.lt_succ_self n)), ← h (amn f n) (by omega)]
theorem c_X12_late (d : Nat) {μ : jM} {k : Kt} {M : Mn} {r : List Int} (hk : KR μ k) (hM : MR μ M) (hok : Mkk k M) (hr : RR μ r) (a n : Int) : ∃ μ', CL (d + 4) 305 [jR 69, jI a, jI n] μ = rI (if 1 ≤ n ∧ n ≤ 9 then (if whol M a then ckl k (M a.toNat) n.toNat (M a.toNat).length else -3) else -1) μ' ∧ fR μ' μ ∧ RR μ' (if 1 ≤ n ∧ n ≤ 9 ∧ whol M a = true then ckr k (M a.toNat) n.toNat (M a.toNat).length else r) := by
  have h10 := hk.1.1
  have hM0 := th0_MR hM
  rw [e_X12_late, c_X12_in]
  by_cases hn : 1 ≤ n ∧ n ≤ 9
  · obtain ⟨x, rfl⟩ := Int.eq_ofNat_of_zero_le (show 0 ≤ n by omega)
    rw [if_pos hn, if_pos hn, bI_r, if_neg (by decide), c_X12_isWhole _ hM0 h10 hok, bI_r, Int.toNat_natCast]
    cases hl : whol M a with
    | false => exact ⟨_, rfl, fR_0 μ, by rw [if_neg (fun z => by cases z.2.2)]; exact th0_RR hr⟩
    | true =>
      obtain ⟨i, hi, rfl, hp, hkn⟩ := whol_k hok hl
      have hl10 := (hM i hi).1
      have hko := hk.1
      have fb : ∀ j, j ≤ (M i).length → ∀ o, 0 ≤ ckf k (M i) x j o ∧ ckf k (M i) x j o ≤ 9 * j := by
        intro j
        induction j with
        | zero =>
          intro _ o
          show 0 ≤ (0 : Int) ∧ (0 : Int) ≤ 9 * ((0 : Nat) : Int)
          omega
        | succ j ih =>
          intro hj o
          have a := ih (by omega) o
          have b := mho_ok hko hkn j (by omega)
          show 0 ≤ (if o = amn (ckf k (M i) x j) x then ckf k (M i) x j o + mho k (M i) j else ckf k (M i) x j o) ∧ (if o = amn (ckf k (M i) x j) x then ckf k (M i) x j o + mho k (M i) j else ckf k (M i) x j o) ≤ 9 * ((j + 1 : Nat) : Int)
          have b : mho k (M i) j ≤ 9 := b
          split <;> omega
      -- the hearths are empty
      let μ0 : jM := jup μ 69 20 0
      let μ1 : jM := jup (jpre μ0 94 (fun _ => 0) x) 69 19 0
      have c1 : fR μ1 μ := fR_t (fR_0 μ) (fR_t ⟨fun q hq => jpre_ne (by omega), fun j _ => by rw [jpre_ne (by decide)]⟩ (fR_19 _ 0))
      obtain ⟨⟨v, μ2⟩, e2, c2, a2, r2, l2⟩ := lp_i (fun (j : Nat) (q : Int × jM) => EV (d + 3) T_X12_late 2 [some (jR 69), some (jI i), some (jI x), some (jI q.1), some (jI j), none, none] [] q.2) (fun j q => fR q.2 μ ∧ (∀ o : Nat, o < x → q.2 94 o = ckf k (M i) x j o) ∧ RR q.2 (ckr k (M i) x j) ∧ q.1 = ckl k (M i) x j) (M i).length (fun j q hj hI => by
        obtain ⟨v, μ2⟩ := q
        obtain ⟨c2, a2, r2, l2⟩ := hI
        have c2 : fR μ2 μ := c2
        have a2 : ∀ o : Nat, o < x → μ2 94 o = ckf k (M i) x j o := a2
        have r2 : RR μ2 (ckr k (M i) x j) := r2
        have l2 : v = ckl k (M i) x j := l2
        obtain ⟨-, m2, m3⟩ := fR_MR c2 hM i hi
        have k2 := fR_KR c2 hk
        have hx : (M i).getD j 10 < kn k := hkn j hj
        have hu : u99 ((M i).getD j 10) = (((M i).getD j 10 : Nat) : Int) := if_neg (by omega)
        have e78 : μ2 78 ((10 * i + j : Nat) : Int) = (((M i).getD j 10 : Nat) : Int) := (m3 j hj).trans hu
        have inner : EV (d + 3) T_X12_late 3 [some (jR 69), some (jI i), some (jI x), some (jI v), some (jI j), some (jI 0), some (jI 1)] [] μ2 = EV (d + 3) T_X12_late 3 [some (jR 69), some (jI i), some (jI x), some (jI v), some (jI j), some (jI (amn (ckf k (M i) x j) x : Nat)), some (jI x)] [] μ2 := by
          have := lp_0 (fun y : Nat => EV (d + 3) T_X12_late 3 [some (jR 69), some (jI i), some (jI x), some (jI v), some (jI j), some (jI (amn (ckf k (M i) x j) (y + 1) : Nat)), some (jI (y + 1 : Nat))] [] μ2) (x - 1) (fun y hy => by
            have ha := amn_lt (ckf k (M i) x j) (y + 1)
            have es : amn (ckf k (M i) x j) (y + 1 + 1) = if ckf k (M i) x j (y + 1) < ckf k (M i) x j (amn (ckf k (M i) x j) (y + 1)) then y + 1 else amn (ckf k (M i) x j) (y + 1) := rfl
            rw [e_X12_late_3, if_pos (by omega), gd_t (by omega), gd_t (by omega), a2 _ (by omega), a2 _ (by omega), w_s (y + 1) (by omega), es]
            by_cases hlt : ckf k (M i) x j (y + 1) < ckf k (M i) x j (amn (ckf k (M i) x j) (y + 1))
            · rw [if_pos hlt, if_pos hlt]
            · rw [if_neg hlt, if_neg hlt])
          have e0 : (x - 1) + 1 = x := by omega
          rw [e0] at this
          have e1 : amn (ckf k (M i) x j) (0 + 1) = 0 := amn_1 _
          rw [e1] at this
          exact this
        let A := amn (ckf k (M i) x j) x
        have hA : A < x := by
          have : amn (ckf k (M i) x j) x ≤ x - 1 := amn_lt (ckf k (M i) x j) x
          show amn (ckf k (M i) x j) x < x
          omega
        have hfb := fb j (by omega) A
        have hmb : mho k (M i) j ≤ 9 := mho_ok hko hkn j hj
        have hkho : mho k (M i) j = kho k ((M i).getD j 10) := rfl
        let u : Int := cky k (M i) x j
        have hu2 : u = ckf k (M i) x j A + mho k (M i) j := rfl
        let μ3 : jM := jup μ2 94 (A : Nat) u
        have r3 : RR μ3 (ckr k (M i) x j) := RR_cg r2 (jup_ne (by decide)) (by show jup _ _ _ _ 69 19 = _; rw [jup_ne (by decide)])
        obtain ⟨μ4, e4, f4, g4, r4⟩ := c_X12_tell (d + 2) r3 u (by rw [ckr_len]; omega)
        have v4 : μ4 94 (A : Nat) = u := by
          rw [f4 94 (by decide) (by decide)]
          exact jup_r _ _ _ _
        have e74 : μ2 74 (((M i).getD j 10 : Nat) : Int) = (mho k (M i) j : Int) := (k2.2.2.2.1 _ hx).2.2.2
        refine ⟨(ckl k (M i) x (j + 1), μ4), ?_, fR_t c2 (fR_t ⟨fun q hq => jup_ne (by omega), fun z _ => by rw [jup_ne (by decide)]⟩ (fR_row f4 g4)), fun o ho => ?_, r4, rfl⟩
        · show EV (d + 3) T_X12_late 2 [some (jR 69), some (jI i), some (jI x), some (jI v), some (jI j), none, none] [] μ2 = _
          rw [e_X12_late_2, gd_t (by omega), m2, if_pos (by omega), inner, e_X12_late_3, if_neg (by omega), ix10 i j hi (by omega), gd_t (by omega), gd_t (by omega), e78, gd_t (by omega), gd_t (by omega), gd_t (by omega), e74, a2 A hA, ← hu2]
          rw [w_id (x := u) (by omega) (by omega)]
          show bV (CL _ _ [jR 69, jI (μ3 94 (A : Nat))] μ3) _ = _
          rw [show μ3 94 (A : Nat) = u from jup_r _ _ _ _, e4, bV_r, gd_t (by omega), v4, w_id (x := u - 10) (by omega) (by omega), w_id (x := u - 10 - (j : Int)) (by omega) (by omega), w_s j (by omega), l2]
          rfl
        · show μ4 94 (o : Nat) = (if o = A then ckf k (M i) x j o + mho k (M i) j else ckf k (M i) x j o)
          rw [f4 94 (by decide) (by decide)]
          by_cases hoA : o = A
          · rw [hoA, if_pos rfl]
            exact jup_r _ _ _ _
          · rw [if_neg hoA]
            exact (jup_m (by omega)).trans (a2 o ho)) (0, μ1) ⟨c1, fun o ho => by
        show μ1 94 (o : Nat) = 0
        show jup (jpre μ0 94 (fun _ => 0) x) 69 19 0 94 (o : Nat) = 0
        rw [jup_ne (by decide)]
        exact jpre_lo (g := fun _ => 0) ho, RR_0 _, rfl⟩
      have c2 : fR μ2 μ := c2
      have l2 : v = ckl k (M i) x (M i).length := l2
      refine ⟨μ2, ?_, c2, ?_⟩
      · rw [z_t, if_pos rfl, Int.toNat_natCast]
        refine Eq.trans ?_ ((lp_0 (fun j : Nat => EV (d + 3) T_X12_late 1 [some (jR 69), some (jI i), some (jI x), some (jI j), none, none, none] [] (jpre μ0 94 (fun _ => 0) j)) x (fun j hj => ?_)).trans ?_)
        · rw [jpre_0]
          rfl
        · rw [e_X12_late_1, if_pos (by omega), gd_t (by omega), w_s j (by omega), jpre_s μ0 94 (fun _ => 0) j rfl]
        · rw [e_X12_late_1, if_neg (by omega)]
          refine Eq.trans e2 ?_
          show EV (d + 3) T_X12_late 2 [some (jR 69), some (jI i), some (jI x), some (jI v), some (jI ((M i).length : Nat)), none, none] [] μ2 = _
          rw [e_X12_late_2, gd_t (by omega), (fR_MR c2 hM i hi).2.1, if_neg (by show ¬ ((M i).length : Int) < ((M i).length : Int); omega), l2]
      · rw [if_pos ⟨hn.1, hn.2, rfl⟩, Int.toNat_natCast]
        exact r2
  · rw [if_neg hn, if_neg hn, if_neg (show ¬ (1 ≤ n ∧ n ≤ 9 ∧ whol M a = true) from fun z => hn ⟨z.1, z.2.1⟩)]
    exact ⟨_, rfl, fR_0 μ, th0_RR hr⟩
theorem c_X12_hearths (d : Nat) {μ : jM} {k : Kt} {M : Mn} {r : List Int} (hk : KR μ k) (hM : MR μ M) (hok : Mkk k M) (hr : RR μ r) (a : Int) : ∃ μ', CL (d + 4) 304 [jR 69, jI a] μ = rI (if whol M a then (mmo k (M a.toNat) 20 : Nat) else -3) μ' ∧ fR μ' μ ∧ RR μ' (if whol M a then mhr k (M a.toNat) (M a.toNat).length else r) := by
  have h10 := hk.1.1
  have hM0 := th0_MR hM
  rw [e_X12_hearths, c_X12_isWhole _ hM0 h10 hok, bI_r]
  cases hl : whol M a with
  | false => exact ⟨_, rfl, fR_0 μ, th0_RR hr⟩
  | true =>
    obtain ⟨i, hi, rfl, hp, hkn⟩ := whol_k hok hl
    have hl10 := (hM i hi).1
    let μ0 : jM := jup μ 69 20 0
    have k0 : KR μ0 k := th0_KR hk
    obtain ⟨-, m2, m3⟩ := hM0 i hi
    have m2 : μ0 79 i = ((M i).length : Int) := m2
    have e78 : ∀ j, j < (M i).length → (M i).getD j 10 < kn k ∧ μ0 78 ((10 * i + j : Nat) : Int) = (((M i).getD j 10 : Nat) : Int) := fun j hj => by
      have hx := hkn j hj
      exact ⟨hx, (m3 j hj).trans (if_neg (by omega))⟩
    have mm : ∀ y, mmo k (M i) y ≤ 20 := fun y => by
      induction y with
      | zero => exact Nat.zero_le _
      | succ y ih =>
        have := cnt_le (fun j => decide ((10 + j : Int) - mho k (M i) j ≤ y) && decide (y < 10 + j)) (M i).length
        show max (mmo k (M i) y) (mhc k (M i) y (M i).length) ≤ 20
        unfold mhc
        omega
    have most : EV (d + 3) T_X12_hearths 1 [some (jR 69), some (jI i), some (jI 0), some (jI 0), none, none] [] μ0 = EV (d + 3) T_X12_hearths 1 [some (jR 69), some (jI i), some (jI (mmo k (M i) 20 : Nat)), some (jI (20 : Nat)), none, none] [] μ0 := by
      refine lp_0 (fun i_1 : Nat => EV (d + 3) T_X12_hearths 1 [some (jR 69), some (jI i), some (jI (mmo k (M i) i_1 : Nat)), some (jI i_1), none, none] [] μ0) 20 (fun hr hhr => ?_)
      rw [e_X12_hearths_1, if_pos (by omega)]
      refine (lp_0 (fun j : Nat => EV (d + 3) T_X12_hearths 2 [some (jR 69), some (jI i), some (jI (mmo k (M i) hr : Nat)), some (jI hr), some (jI (mhc k (M i) hr j : Nat)), some (jI j)] [] μ0) (M i).length (fun j hj => ?_)).trans ?_
      · obtain ⟨hx, ex⟩ := e78 j hj
        have hho := (hk.1.2.2.1 _ hx).2.2.2.2
        have hl10 : (M i).length ≤ 10 := hl10
        have hcn := cnt_le (fun j => decide ((10 + j : Int) - mho k (M i) j ≤ hr) && decide (hr < 10 + j)) j
        have hcn : mhc k (M i) hr j ≤ j := hcn
        have e : mhc k (M i) hr (j + 1) = mhc k (M i) hr j + (if (decide ((10 + j : Int) - mho k (M i) j ≤ hr) && decide (hr < 10 + j)) then 1 else 0) := rfl
        have e74 : μ0 74 (((M i).getD j 10 : Nat) : Int) = (mho k (M i) j : Int) := (k0.2.2.2.1 _ hx).2.2.2
        have hmh : mho k (M i) j = kho k ((M i).getD j 10) := rfl
        rw [e_X12_hearths_2, gd_t (by omega), m2, if_pos (by omega), w_id (x := 10 + (j : Int)) (by omega) (by omega), w_s j (by omega), e]
        by_cases c2 : hr < 10 + j
        · rw [if_pos (by omega), ix10 i j hi (by omega), gd_t (by omega), ex, gd_t (by omega), e74, w_id (x := 10 + (j : Int) - _) (by omega) (by omega), decide_eq_true c2, Bool.and_true]
          by_cases c1 : (hr : Int) < 10 + (j : Int) - (mho k (M i) j : Nat)
          · rw [if_pos c1, decide_eq_false (show ¬ (10 + j : Int) - mho k (M i) j ≤ hr by omega), if_neg (by decide), w_id (by omega) (by omega)]
            rfl
          · rw [if_neg c1, decide_eq_true (show (10 + j : Int) - mho k (M i) j ≤ hr by omega), if_pos rfl, w_id (by omega) (by omega)]
            rfl
        · rw [if_neg (by omega), decide_eq_false c2, Bool.and_false, if_neg (by decide), w_id (by omega) (by omega)]
          rfl
      · rw [e_X12_hearths_2, gd_t (by omega), m2, if_neg (by omega), w_s hr (by omega)]
        have e : mmo k (M i) (hr + 1) = max (mmo k (M i) hr) (mhc k (M i) hr (M i).length) := rfl
        have : max ((mmo k (M i) hr : Nat) : Int) ((mhc k (M i) hr (M i).length : Nat) : Int) = ((max (mmo k (M i) hr) (mhc k (M i) hr (M i).length) : Nat) : Int) := by omega
        rw [e, this]
    obtain ⟨μ2, e2, c2, r2⟩ := lp_i (fun (j : Nat) (μ1 : jM) => EV (d + 3) T_X12_hearths 3 [some (jR 69), some (jI i), some (jI (mmo k (M i) 20 : Nat)), some (jI j), none, none] [] μ1) (fun j μ1 => fR μ1 μ ∧ RR μ1 (mhr k (M i) j)) (M i).length (fun j μ1 hj hI => by
      obtain ⟨c1, r1⟩ := hI
      obtain ⟨-, q2, q3⟩ := fR_MR c1 hM i hi
      have k1 := fR_KR c1 hk
      have hl10 : (M i).length ≤ 10 := hl10
      have hx : (M i).getD j 10 < kn k := hkn j hj
      have ex : μ1 78 ((10 * i + j : Nat) : Int) = (((M i).getD j 10 : Nat) : Int) := (q3 j hj).trans (if_neg (by omega))
      have hho := (hk.1.2.2.1 _ hx).2.2.2.2
      have hmh : mho k (M i) j = kho k ((M i).getD j 10) := rfl
      have e74 : μ1 74 (((M i).getD j 10 : Nat) : Int) = (mho k (M i) j : Int) := (k1.2.2.2.1 _ hx).2.2.2
      obtain ⟨μ2, e2, f2, g2, r2⟩ := c_X12_tell (d + 2) r1 (10 + (j : Int) - mho k (M i) j) (by rw [mhr_len]; omega)
      refine ⟨μ2, ?_, fR_t c1 (fR_row f2 g2), r2⟩
      show EV (d + 3) T_X12_hearths 3 _ [] μ1 = _
      rw [e_X12_hearths_3, gd_t (by omega), q2, if_pos (by show (j : Int) < ((M i).length : Nat); have : j < (M i).length := hj; omega), ix10 i j hi (by omega), gd_t (by omega), ex, gd_t (by omega), e74, w_id (x := 10 + (j : Int)) (by omega) (by omega), w_id (by omega) (by omega), w_s j (by omega), e2, bV_r]) (jup μ0 69 19 0) ⟨fR_t (fR_0 μ) (fR_19 _ 0), RR_0 _⟩
    refine ⟨μ2, ?_, c2, ?_⟩
    · rw [z_t, if_pos rfl, Int.toNat_natCast, most, e_X12_hearths_1, if_neg (by decide)]
      refine Eq.trans e2 ?_
      show EV (d + 3) T_X12_hearths 3 [some (jR 69), some (jI i), some (jI (mmo k (M i) 20 : Nat)), some (jI ((M i).length : Nat)), none, none] [] μ2 = _
      rw [e_X12_hearths_3, gd_t (by omega), (fR_MR c2 hM i hi).2.1, if_neg (by show ¬ ((M i).length : Int) < ((M i).length : Int); omega)]
    · rw [if_pos rfl, Int.toNat_natCast]
      exact r2
theorem c_X12_ateOf (d : Nat) {μ : jM} {k : Kt} {M : Mn} (hk : KR μ k) (hM : MR μ M) (i : Nat) (hi : i < 3) (hkn : ∀ j, j < (M i).length → (M i).getD j 10 < kn k) (g : Nat) (hg : g < kg k) : CL (d + 2) 306 [jR 69, jI i, jI g] μ = rI (mse k (M i) g (M i).length : Nat) μ := by
  obtain ⟨hl10, m2, m3⟩ := hM i hi
  have h10 := hk.1.1
  rw [e_X12_ateOf]
  refine (lp_0 (fun j : Nat => EV (d + 1) T_X12_ateOf 1 [some (jR 69), some (jI i), some (jI g), some (jI (mse k (M i) g j : Nat)), some (jI j)] [] μ) (M i).length (fun j hj => ?_)).trans ?_
  · have hx := hkn j hj
    have ex : μ 78 ((10 * i + j : Nat) : Int) = (((M i).getD j 10 : Nat) : Int) := (m3 j hj).trans (if_neg (by omega))
    have hb := mse_lt hk.1 g j (fun y hy => hkn y (by omega))
    have hst := (hk.1.2.2.1 _ hx).2.1
    have e : mse k (M i) g (j + 1) = mse k (M i) g j ||| (if khu k g ((M i).getD j 10) then 0 else kst k ((M i).getD j 10)) := rfl
    have e0 := or_nn (mse k (M i) g j) 0 (by omega) (by decide)
    rw [e_X12_ateOf_1, gd_t (by omega), m2, if_pos (by omega), ix10 i j hi (by omega), gd_t (by omega), ex, c_X12_isHungry _ hk g _ hg hx, bI_r, w_s j (by omega), e]
    cases khu k g ((M i).getD j 10) with
    | true =>
      rw [if_pos rfl, if_neg (by decide), if_pos rfl, ← e0]
      rfl
    | false =>
      rw [z_f, gd_t (by omega), ex, gd_t (by omega), (hk.2.2.2.1 _ hx).1, or_nn _ _ (by omega) (by omega), if_neg (by decide)]
  · rw [e_X12_ateOf_1, gd_t (by omega), m2, if_neg (by omega)]
theorem c_X12_poison (d : Nat) {μ : jM} {k : Kt} {M : Mn} (hk : KR μ k) (hM : MR μ M) (hok : Mkk k M) (a died : Int) : CL (d + 4) 307 [jR 69, jI a, jI died] μ = rI (poA k M a died) (jup μ 69 20 0) := by
  have h10 := hk.1.1
  have h6 := hk.1.2.1
  have h2 := p2_le h6
  have h2p := Nat.two_pow_pos (kg k)
  have hk0 := th0_KR hk
  have hM0 := th0_MR hM
  unfold poA
  rw [e_X12_poison, hk0.2.2.1, shl_1 _ (by omega), w_id (by omega) (by omega), c_X12_in]
  by_cases hd : 0 ≤ died ∧ died < (2 ^ kg k : Nat)
  · obtain ⟨x, rfl⟩ := Int.eq_ofNat_of_zero_le hd.1
    rw [if_pos (by omega), if_pos hd, bI_r, if_neg (by decide), c_X12_isWhole _ hM0 h10 hok, bI_r, Int.toNat_natCast]
    cases hl : whol M a with
    | false => rfl
    | true =>
      obtain ⟨i, hi, rfl, hp, hkn⟩ := whol_k hok hl
      rw [z_t, if_pos rfl, Int.toNat_natCast]
      refine (lp_0 (fun g : Nat => EV (d + 3) T_X12_poison 1 [some (jR 69), some (jI i), some (jI x), some (jI (mpo k (M i) x g : Nat)), some (jI g)] [] (jup μ 69 20 0)) (kg k) (fun g hg => ?_)).trans ?_
      · have hb := mpo_lt k (M i) x g
        have hs := mse_lt hk.1 g (M i).length hkn
        have e : mpo k (M i) x (g + 1) = if x.testBit g then mpo k (M i) x g &&& mse k (M i) g (M i).length else nd (mpo k (M i) x g) (mse k (M i) g (M i).length) := rfl
        rw [e_X12_poison_1, hk0.2.2.1, if_pos (by omega), c_X12_has _ _ x g (by omega) (by omega), bI_r, e, w_s g (by omega)]
        cases x.testBit g with
        | true =>
          rw [z_t, c_X12_ateOf _ hk0 hM0 i hi hkn g hg, bI_r, and_nn _ _ (by omega) (by omega)]
          rfl
        | false =>
          rw [z_f, c_X12_ateOf _ hk0 hM0 i hi hkn g hg, bI_r, xor_m1 _ (by omega), and_nc _ _ (by omega) (by omega)]
          rfl
      · rw [e_X12_poison_1, hk0.2.2.1, if_neg (by omega)]
  · rw [if_neg (by omega), if_neg hd]
    rfl
