/-! ## calls on MENUS: the reference -/
theorem th0_MR {μ : jM} {M : Mn} (h : MR μ M) : MR (jup μ 69 20 0) M := MR_cg h (jup_ne (by decide)) (jup_ne (by decide))
theorem lk_same {k : Kt} {w : Lw} {m : List Nat} : fs (fun x => mwy k w ([] ++ m) (([] : List Nat).length + x) != 0) m.length = mft k w m := fs_cg (fun i _ => by
  rw [List.nil_append, List.length_nil, Nat.zero_add])
/-- a MENU looked at from nothing on -/
theorem c_lookAll (d : Nat) {μ : jM} {k : Kt} {w : Lw} (hk : KR μ k) (hw : LR μ w) (i : Nat) (hi : i < 3) {m : List Nat} (hm : MRi μ i m) (hok : Mok (kn k) m) (hmp : 0 < m.length) : ∃ μ1 μ', CL (d + 4) 253 [jR 69] μ = rV μ1 ∧ CL (d + 4) 252 [jR 69, jI i] μ1 = rI (mft k w m : Nat) μ' ∧ fLk μ' μ ∧ μ' 69 30 = lkW k w m ∧ LkS μ' k m (mft k w m) ∧ ∀ j, j < mft k w m → m.getD j 10 < kn k := by
  obtain ⟨μ1, e1, f1, l1⟩ := c_X12_lookFromNothing (d + 3) μ k m
  obtain ⟨μ2, e2, f2, v2, l2, kn2⟩ := c_X12_lookOn d (fLk_KR f1 hk) (fLk_LR f1 hw) i hi (MRi_cg hm (f1.1 79 (by omega)) (f1.1 78 (by omega))) [] (by rw [List.nil_append]; exact hok) (Nat.zero_le _) (fun j hj => absurd hj (Nat.not_lt_zero j)) (by rw [List.nil_append]; exact l1) hmp
  rw [lk_same] at e2 v2 l2 kn2
  rw [List.nil_append, List.length_nil, Nat.zero_add] at v2 l2 kn2
  exact ⟨μ1, μ2, e1, e2, fLk_t f1 f2, v2, l2, kn2⟩
theorem c_X12_look (d : Nat) {μ : jM} {k : Kt} {w : Lw} {M : Mn} {r : List Int} (hk : KR μ k) (hw : LR μ w) (hM : MR μ M) (hok : Mkk k M) (hr : RR μ r) (a : Int) : ∃ μ', CL (d + 5) 254 [jR 69, jI a] μ = rI (if laid M a then lkA k w (M a.toNat) else -3) μ' ∧ fR μ' μ ∧ RR μ' (if laid M a then [lkW k w (M a.toNat), mco k (M a.toNat) (mft k w (M a.toNat)), (mhu k (M a.toNat) (mft k w (M a.toNat)) : Int)] else r) := by
  rw [e_X12_look, c_X12_isMenu _ (th0_MR hM), bI_r]
  cases hl : laid M a with
  | false => exact ⟨_, rfl, fR_0 μ, th0_RR hr⟩
  | true =>
    obtain ⟨i, hi, rfl, hp⟩ := laid_i hl
    have hle := mft_le k w (M i)
    obtain ⟨μ1, μ2, e1, e2, f2, v2, l2, -⟩ := c_lookAll d (th0_KR hk) (th0_LR hw) i hi (th0_MR hM i hi) (hok i hi) hp
    obtain ⟨μ3, e3, f3, g3, r3⟩ := c_X12_tell (d + 3) (RR_0 μ2) (lkW k w (M i)) (by simp)
    obtain ⟨μ4, e4, f4, g4, r4⟩ := c_X12_tell (d + 3) r3 (mco k (M i) (mft k w (M i))) (by simp)
    obtain ⟨μ5, e5, f5, g5, r5⟩ := c_X12_tell (d + 3) r4 ((mhu k (M i) (mft k w (M i)) : Nat) : Int) (by simp)
    have c3 : fR μ3 μ := fR_t (fR_0 μ) (fR_t (fR_k f2) (fR_t (fR_19 μ2 0) (fR_row f3 g3)))
    have c5 := fR_t c3 (fR_t (fR_row f4 g4) (fR_row f5 g5))
    have v30 : jup μ2 69 19 0 69 30 = lkW k w (M i) := (jup_m (by decide)).trans v2
    have v31 : μ3 69 31 = mco k (M i) (mft k w (M i)) := (g3 31 (by decide)).trans ((jup_m (by decide)).trans l2.1)
    have v32 : μ4 69 32 = ((mhu k (M i) (mft k w (M i)) : Nat) : Int) := (g4 32 (by decide)).trans ((g3 32 (by decide)).trans ((jup_m (by decide)).trans l2.2.1))
    refine ⟨μ5, ?_, c5, ?_⟩
    · rw [z_t, e1, bV_r, e2, bI_r, v30, e3, bV_r, v31, e4, bV_r, v32, e5, bV_r, gd_t (by omega), (fR_MR c5 hM i hi).2.1, if_pos rfl, Int.toNat_natCast]
      unfold lkA
      by_cases hlt : mft k w (M i) < (M i).length
      · rw [if_neg (by omega), if_pos hlt]
      · rw [if_pos (by omega), if_neg hlt]
    · rw [if_pos rfl, Int.toNat_natCast]
      exact r5
/-- a call of the reference that changes MENUS -/
def fRm (μ' μ : jM) : Prop := (∀ q, q ≠ 69 → q ≠ 78 → q ≠ 79 → μ' q = μ q) ∧ ∀ j : Int, (j = 1 ∨ j = 6 ∨ j = 9 ∨ j = 10 ∨ j = 11 ∨ j = 13 ∨ j = 17 ∨ j = 19 ∨ j = 27 ∨ j = 49) → μ' 69 j = μ 69 j
theorem ixne {i j x y : Nat} (hi : i < 3) (hx : x < 3) (hj : j < 10) (hy : y < 10) (h : ¬ (i = x ∧ j = y)) : ((10 * i + j : Nat) : Int) ≠ ((10 * x + y : Nat) : Int) := by omega
theorem c_X12_swap (d : Nat) {μ : jM} {M : Mn} (hM : MR μ M) (a j i : Int) : ∃ μ', CL (d + 3) 255 [jR 69, jI a, jI j, jI i] μ = rI (if msp M a j i then 1 else 0) μ' ∧ fRm μ' μ ∧ MR μ' (if msp M a j i then mput M a.toNat (msw (M a.toNat) j.toNat i.toNat) else M) := by
  have f0 : fRm (jup μ 69 20 0) μ := ⟨fun q h _ _ => jup_ne h, fun j hj => jup_m (by omega)⟩
  have hM0 := th0_MR hM
  rw [e_X12_swap, c_X12_isMenu _ hM0, bI_r]
  cases hl : laid M a with
  | false =>
    have hsp : msp M a j i = false := by
      unfold msp
      by_cases ha : 0 ≤ a ∧ a < 3
      · rw [decide_eq_true ha, Bool.true_and]
        unfold laid at hl
        rw [decide_eq_true ha, Bool.true_and, decide_eq_false_iff_not] at hl
        exact decide_eq_false (by omega)
      · rw [decide_eq_false ha, Bool.false_and]
    rw [hsp]
    exact ⟨_, rfl, f0, hM0⟩
  | true =>
    obtain ⟨x, hx, rfl, hp⟩ := laid_i hl
    obtain ⟨m1, m2, m3⟩ := hM0 x hx
    have esp : msp M (x : Int) j i = decide (0 ≤ j ∧ j < (M x).length ∧ 0 ≤ i ∧ i < (M x).length ∧ j ≠ i) := by
      unfold msp
      rw [decide_eq_true (by omega), Bool.true_and, Int.toNat_natCast]
    rw [z_t, gd_t (by omega), m2, w_id (by omega) (by omega), c_X12_in, bI_r, esp, Int.toNat_natCast]
    by_cases hj : 0 ≤ j ∧ j ≤ ((M x).length : Int) - 1
    · rw [if_pos hj, if_neg (by decide), gd_t (by omega), m2, w_id (by omega) (by omega), c_X12_in, bI_r]
      by_cases hi : 0 ≤ i ∧ i ≤ ((M x).length : Int) - 1
      · rw [if_pos hi, if_neg (by decide)]
        by_cases hji : j = i
        · rw [if_pos hji, decide_eq_false (fun z => z.2.2.2.2 hji)]
          exact ⟨_, rfl, f0, hM0⟩
        · obtain ⟨y, rfl⟩ := Int.eq_ofNat_of_zero_le hj.1
          obtain ⟨z, rfl⟩ := Int.eq_ofNat_of_zero_le hi.1
          have hyz : y ≠ z := fun e => hji (by rw [e])
          rw [if_neg hji, ix10 x y hx (by omega), ix10 x z hx (by omega), gd_t (by omega), gd_t (by omega), gd_t (by omega), gd_t (by omega), gd_t (by decide), decide_eq_true (by omega), m3 y (by omega), m3 z (by omega), if_pos rfl, if_pos rfl, Int.toNat_natCast, Int.toNat_natCast]
          refine ⟨_, rfl, ⟨fun q h1 h2 h3 => by rw [jup_ne h2, jup_ne h2, jup_ne h1], fun q hq => by rw [jup_ne (by decide), jup_ne (by decide), jup_m (by omega)]⟩, fun b hb => ?_⟩
          obtain ⟨b1, b2, b3⟩ := hM0 b hb
          unfold mput
          by_cases hbx : b = x
          · subst hbx
            rw [if_pos rfl]
            refine ⟨by rw [msw_len]; exact m1, by rw [jup_ne (by decide), jup_ne (by decide), msw_len]; exact m2, fun q hq => ?_⟩
            rw [msw_len] at hq
            unfold msw
            rw [mkl_at, if_pos hq]
            by_cases h2 : q = z
            · rw [h2, jup_r, if_neg (Ne.symm hyz), if_pos rfl]
            · rw [jup_m (ixne hx hx (by omega) (by omega) (fun e => h2 e.2))]
              by_cases h3 : q = y
              · rw [h3, jup_r, if_pos rfl]
              · rw [jup_m (ixne hx hx (by omega) (by omega) (fun e => h3 e.2)), if_neg h3, if_neg h2]
                exact m3 q hq
          · rw [if_neg hbx]
            refine ⟨b1, by rw [jup_ne (by decide), jup_ne (by decide)]; exact b2, fun q hq => ?_⟩
            rw [jup_m (ixne hb hx (by omega) (by omega) (fun e => hbx e.1)), jup_m (ixne hb hx (by omega) (by omega) (fun e => hbx e.1))]
            exact b3 q hq
      · rw [if_neg hi, decide_eq_false (by omega)]
        exact ⟨_, rfl, f0, hM0⟩
    · rw [if_neg hj, decide_eq_false (by omega)]
      exact ⟨_, rfl, f0, hM0⟩
theorem c_X12_turn (d : Nat) {μ : jM} {M : Mn} (hM : MR μ M) (a : Int) : ∃ μ', CL (d + 3) 256 [jR 69, jI a] μ = rI (if laid M a then 1 else 0) μ' ∧ fRm μ' μ ∧ MR μ' (if laid M a then mput M a.toNat (mrv (M a.toNat)) else M) := by
  have f0 : fRm (jup μ 69 20 0) μ := ⟨fun q h _ _ => jup_ne h, fun j hj => jup_m (by omega)⟩
  have hM0 := th0_MR hM
  rw [e_X12_turn, c_X12_isMenu _ hM0, bI_r]
  cases hl : laid M a with
  | false => exact ⟨_, rfl, f0, hM0⟩
  | true =>
    obtain ⟨x, hx, rfl, hp⟩ := laid_i hl
    obtain ⟨m1, m2, m3⟩ := hM0 x hx
    let n := (M x).length
    -- after i pairs
    let I : Nat → jM → Prop := fun i μ1 => (∀ q, q ≠ 78 → μ1 q = jup μ 69 20 0 q) ∧ MR μ1 (mput M x (mrp (M x) i))
    have step : ∀ i μ1, i < n / 2 → I i μ1 → ∃ μ2, EV (d + 2) T_X12_turn 1 [some (jR 69), some (jI x), some (jI i), some (jI ((n : Int) - 1 - i)), none] [] μ1 = EV (d + 2) T_X12_turn 1 [some (jR 69), some (jI x), some (jI (i + 1 : Nat)), some (jI ((n : Int) - 1 - (i + 1 : Nat))), none] [] μ2 ∧ I (i + 1) μ2 := by
      intro i μ1 hi hI
      obtain ⟨f1, i1⟩ := hI
      have hlen : (mrp (M x) i).length = n := mkl_len _ _
      obtain ⟨p1, p2, p3⟩ := i1 x hx
      unfold mput at p1 p2 p3
      rw [if_pos rfl] at p1 p2 p3
      rw [hlen] at p1 p2 p3
      have e1 : (n : Int) - 1 - i = ((n - 1 - i : Nat) : Int) := by omega
      have e2 : ((n - 1 - i : Nat) : Int) + -1 = (n : Int) - 1 - (i + 1 : Nat) := by omega
      rw [e1, e_X12_turn_1, if_pos (by omega), ix10 x i hx (by omega), ix10 x (n - 1 - i) hx (by omega), gd_t (by omega), gd_t (by omega), gd_t (by omega), gd_t (by omega), w_s i (by omega), w_id (x := ((n - 1 - i : Nat) : Int) + -1) (by omega) (by omega), e2, p3 i (by omega), p3 (n - 1 - i) (by omega)]
      refine ⟨_, rfl, fun q hq => by rw [jup_ne hq, jup_ne hq]; exact f1 q hq, fun b hb => ?_⟩
      obtain ⟨b1, b2, b3⟩ := i1 b hb
      unfold mput at b1 b2 b3 ⊢
      by_cases hbx : b = x
      · subst hbx
        rw [if_pos rfl] at b1 b2 b3 ⊢
        rw [← mrp_s (M b) i (by omega)]
        refine ⟨by rw [msw_len]; exact b1, by rw [jup_ne (by decide), jup_ne (by decide), msw_len]; exact b2, fun q hq => ?_⟩
        rw [msw_len] at hq
        unfold msw
        rw [mkl_at, if_pos hq]
        have hyz : i ≠ n - 1 - i := by omega
        rw [hlen] at hq
        by_cases h2 : q = n - 1 - i
        · have h2' : q = (M b).length - 1 - i := h2
          rw [h2, jup_r, if_neg (Ne.symm hyz), if_pos rfl]
        · have h2' : ¬ q = (M b).length - 1 - i := h2
          rw [jup_m (ixne hx hx (by omega) (by omega) (fun e => h2 e.2))]
          by_cases h3 : q = i
          · rw [h3, jup_r, if_pos rfl]
          · rw [jup_m (ixne hx hx (by omega) (by omega) (fun e => h3 e.2)), if_neg h3, if_neg h2']
            exact p3 q hq
      · rw [if_neg hbx] at b1 b2 b3 ⊢
        refine ⟨b1, by rw [jup_ne (by decide), jup_ne (by decide)]; exact b2, fun q hq => ?_⟩
        rw [jup_m (ixne hb hx (by omega) (by omega) (fun e => hbx e.1)), jup_m (ixne hb hx (by omega) (by omega) (fun e => hbx e.1))]
        exact b3 q hq
    have i0 : I 0 (jup μ 69 20 0) := ⟨fun _ _ => rfl, fun b hb => by
      unfold mput
      by_cases hbx : b = x
      · rw [if_pos hbx, mrp_0, ← hbx]
        exact hM0 b hb
      · rw [if_neg hbx]
        exact hM0 b hb⟩
    obtain ⟨μ2, e2, f2, i2⟩ := lp_i (fun (i : Nat) (μ1 : jM) => EV (d + 2) T_X12_turn 1 [some (jR 69), some (jI x), some (jI i), some (jI ((n : Int) - 1 - i)), none] [] μ1) I (n / 2) step (jup μ 69 20 0) i0
    rw [mrp_end] at i2
    refine ⟨μ2, ?_, ⟨fun q h1 h2 _ => (f2 q h2).trans (jup_ne h1), fun q hq => by rw [f2 69 (by decide), jup_m (by omega)]⟩, ?_⟩
    · rw [z_t, gd_t (by omega), m2, w_id (by omega) (by omega), if_pos rfl]
      have e0 : ((M x).length : Int) - 1 = (n : Int) - 1 - ((0 : Nat) : Int) := by
        show ((M x).length : Int) - 1 = ((M x).length : Int) - 1 - ((0 : Nat) : Int)
        omega
      rw [e0]
      refine Eq.trans e2 ?_
      show EV (d + 2) T_X12_turn 1 [some (jR 69), some (jI x), some (jI (n / 2 : Nat)), some (jI ((n : Int) - 1 - (n / 2 : Nat))), none] [] μ2 = _
      rw [e_X12_turn_1, if_neg (by omega), gd_t (by decide)]
    · rw [if_pos rfl, Int.toNat_natCast]
      exact i2
theorem fs_add {P : Nat → Bool} {a b : Nat} (h : fs P a = a) : fs P (a + b) = a + fs (fun x => P (a + x)) b := by
  obtain ⟨p1, p2, p3⟩ := fs_spec P (a + b)
  obtain ⟨q1, q2, q3⟩ := fs_spec (fun x => P (a + x)) b
  obtain ⟨-, r2, -⟩ := fs_spec P a
  rw [h] at r2
  by_cases h1 : fs P (a + b) < a + fs (fun x => P (a + x)) b
  · have h2 := p3 (by omega)
    by_cases h3 : fs P (a + b) < a
    · rw [r2 _ h3] at h2
      cases h2
    · have := q2 (fs P (a + b) - a) (by omega)
      rw [show a + (fs P (a + b) - a) = fs P (a + b) by omega, h2] at this
      cases this
  · by_cases h3 : a + fs (fun x => P (a + x)) b < fs P (a + b)
    · have h4 := p2 _ h3
      have h5 := q3 (by omega)
      have h5 : P (a + fs (fun x => P (a + x)) b) = true := h5
      rw [h5] at h4
      cases h4
    · omega
theorem fs_lo {P : Nat → Bool} {a b : Nat} (h : fs P a < a) : fs P (a + b) = fs P a := by
  obtain ⟨p1, p2, p3⟩ := fs_spec P (a + b)
  obtain ⟨q1, q2, q3⟩ := fs_spec P a
  by_cases h1 : fs P (a + b) < fs P a
  · have h2 := p3 (by omega)
    rw [q2 _ h1] at h2
    cases h2
  · by_cases h2 : fs P a < fs P (a + b)
    · have h3 := p2 _ h2
      rw [q3 h] at h3
      cases h3
    · omega
/-- a row's first part looks as it does alone -/
theorem getD_app {a b : List Nat} {i : Nat} (h : i < a.length) : (a ++ b).getD i 10 = a.getD i 10 := by
  rw [List.getD_eq_getElem?_getD, List.getD_eq_getElem?_getD, List.getElem?_append_left h]
theorem mst_app (a b : List Nat) : ∀ i, i ≤ a.length → mst (a ++ b) i = mst a i
  | 0, _ => rfl
  | i + 1, h => by
    show mst (a ++ b) i ||| (if (a ++ b).getD i 10 = 10 then 0 else 2 ^ (a ++ b).getD i 10) = mst a i ||| (if a.getD i 10 = 10 then 0 else 2 ^ a.getD i 10)
    rw [mst_app a b i (by omega), getD_app (by omega)]
theorem mla_app (a b : List Nat) {i : Nat} (h : i ≤ a.length) : mla (a ++ b) i = mla a i := by
  unfold mla
  by_cases h0 : i = 0
  · rw [if_pos h0, if_pos h0]
  · rw [if_neg h0, if_neg h0, getD_app (by omega)]
theorem mwy_app {k : Kt} {w : Lw} (a b : List Nat) {i : Nat} (h : i < a.length) : mwy k w (a ++ b) i = mwy k w a i := by
  unfold mwy
  rw [getD_app h, mst_app a b i (by omega), mla_app a b (by omega)]
theorem mco_app (k : Kt) (a b : List Nat) {i : Nat} (h : i ≤ a.length) : mco k (a ++ b) i = mco k a i := sm_cg i (fun j hj => by rw [getD_app (by omega)])
theorem mhu_app (k : Kt) (a b : List Nat) {i : Nat} (h : i ≤ a.length) : mhu k (a ++ b) i = mhu k a i := bm_cg (fun g _ => anb_cg (fun j hj => by rw [getD_app (by omega)]))
theorem mft_app {k : Kt} {w : Lw} (a b : List Nat) : fs (fun i => mwy k w (a ++ b) i != 0) a.length = mft k w a := fs_cg (fun i hi => by rw [mwy_app a b hi])
theorem mft_ne {k : Kt} {w : Lw} {m : List Nat} (h : mft k w m < m.length) : mwy k w m (mft k w m) ≠ 0 := by
  have : (mwy k w m (mft k w m) != 0) = true := (fs_spec (fun i => mwy k w m i != 0) m.length).2.2 h
  exact bne_iff_ne.mp this
theorem c_X12_joined (d : Nat) {μ : jM} {k : Kt} {w : Lw} {M : Mn} {r : List Int} (hk : KR μ k) (hw : LR μ w) (hM : MR μ M) (hok : Mkk k M) (hr : RR μ r) (a c : Int) : ∃ μ', CL (d + 5) 257 [jR 69, jI a, jI c] μ = rI (if whol M a && whol M c then lkA k w (M a.toNat ++ M c.toNat) else -3) μ' ∧ fR μ' μ ∧ RR μ' (if whol M a && whol M c then [lkW k w (M a.toNat ++ M c.toNat)] else r) := by
  have h10 := hk.1.1
  have hM0 := th0_MR hM
  rw [e_X12_joined, c_X12_isWhole _ hM0 h10 hok, bI_r]
  cases ha : whol M a with
  | false => exact ⟨_, rfl, fR_0 μ, th0_RR hr⟩
  | true =>
    rw [z_t, c_X12_isWhole _ hM0 h10 hok, bI_r]
    cases hc : whol M c with
    | false => exact ⟨_, rfl, fR_0 μ, th0_RR hr⟩
    | true =>
      obtain ⟨i, hi, rfl, hp⟩ := laid_i (Bool.and_eq_true_iff.mp ha).1
      obtain ⟨j, hj, rfl, hp2⟩ := laid_i (Bool.and_eq_true_iff.mp hc).1
      have m1 := (hM i hi).1
      have m2 := (hM j hj).1
      obtain ⟨μ1, μ2, e1, e2, f2, v2, l2, kn2⟩ := c_lookAll d (th0_KR hk) (th0_LR hw) i hi (hM0 i hi) (hok i hi) hp
      have hle := mft_le k w (M i)
      have hM2 := fLk_MR f2 hM0
      have happ := mft_app (k := k) (w := w) (M i) (M j)
      have hlen : (M i ++ M j).length = (M i).length + (M j).length := List.length_append
      rw [z_t, e1, bV_r, e2, bI_r, gd_t (by omega), (hM2 i hi).2.1, Bool.and_self, if_pos rfl, if_pos rfl, Int.toNat_natCast, Int.toNat_natCast]
      by_cases hlt : mft k w (M i) < (M i).length
      · have et : mft k w (M i ++ M j) = mft k w (M i) := by
          unfold mft
          rw [hlen]
          refine (fs_lo ?_).trans happ
          rw [happ]
          exact hlt
        have eW : lkW k w (M i ++ M j) = lkW k w (M i) := by
          unfold lkW
          rw [et, if_pos (by omega), if_pos hlt, mwy_app _ _ hlt]
        have hne := mft_ne hlt
        obtain ⟨μ3, e3, f3, g3, r3⟩ := c_X12_tell (d + 3) (RR_0 μ2) (lkW k w (M i)) (by simp)
        have v30 : jup μ2 69 19 0 69 30 = lkW k w (M i) := (jup_m (by decide)).trans v2
        have w30 : μ3 69 30 = lkW k w (M i) := (g3 30 (by decide)).trans v30
        refine ⟨μ3, ?_, fR_t (fR_0 μ) (fR_t (fR_k f2) (fR_t (fR_19 μ2 0) (fR_row f3 g3))), by rw [eW]; exact r3⟩
        unfold lkA
        rw [if_neg (by omega), v30, e3, bV_r, w30, if_neg (by unfold lkW; rw [if_pos hlt]; exact hne), et, if_pos (by omega)]
      · have hfull : mft k w (M i) = (M i).length := by omega
        rw [hfull] at l2 kn2
        have l2' : LkS μ2 k (M i ++ M j) (M i).length := ⟨by rw [mco_app _ _ _ (Nat.le_refl _)]; exact l2.1, by rw [mhu_app _ _ _ (Nat.le_refl _)]; exact l2.2.1, by rw [mst_app _ _ _ (Nat.le_refl _)]; exact l2.2.2.1, by rw [mla_app _ _ (Nat.le_refl _)]; exact l2.2.2.2⟩
        obtain ⟨μ3, e3, f3, v3, l3, -⟩ := c_X12_lookOn d (fLk_KR f2 (th0_KR hk)) (fLk_LR f2 (th0_LR hw)) j hj (hM2 j hj) (M i) (Mok_app (hok i hi) (hok j hj)) m1 (fun x hx => by rw [getD_app hx]; exact kn2 x hx) l2' hp2
        have et : mft k w (M i ++ M j) = (M i).length + fs (fun x => mwy k w (M i ++ M j) ((M i).length + x) != 0) (M j).length := by
          unfold mft
          rw [hlen]
          exact fs_add (by rw [happ, hfull])
        have eW : μ3 69 30 = lkW k w (M i ++ M j) := by
          rw [v3]
          unfold lkW
          rw [et, hlen]
          by_cases h9 : fs (fun x => mwy k w (M i ++ M j) ((M i).length + x) != 0) (M j).length < (M j).length
          · rw [if_pos h9, if_pos (by omega)]
          · rw [if_neg h9, if_neg (by omega)]
        obtain ⟨μ4, e4, f4, g4, r4⟩ := c_X12_tell (d + 3) (RR_0 μ3) (lkW k w (M i ++ M j)) (by simp)
        have v30 : jup μ3 69 19 0 69 30 = lkW k w (M i ++ M j) := (jup_m (by decide)).trans eW
        have w30 : μ4 69 30 = lkW k w (M i ++ M j) := (g4 30 (by decide)).trans v30
        have hf := (fs_spec (fun x => mwy k w (M i ++ M j) ((M i).length + x) != 0) (M j).length).1
        refine ⟨μ4, ?_, fR_t (fR_0 μ) (fR_t (fR_k f2) (fR_t (fR_k f3) (fR_t (fR_19 μ3 0) (fR_row f4 g4)))), r4⟩
        rw [if_pos (by omega), e3, bI_r, v30, e4, bV_r, w30, w_id (by omega) (by omega)]
        unfold lkA
        by_cases hl2 : mft k w (M i ++ M j) < (M i ++ M j).length
        · have hne := mft_ne hl2
          rw [if_neg (by unfold lkW; rw [if_pos hl2]; exact hne), if_pos hl2]
          congr 1
          omega
        · rw [if_pos (by unfold lkW; rw [if_neg hl2]), if_neg hl2]
