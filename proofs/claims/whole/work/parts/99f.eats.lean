/-! ## eats -/
def msj (k : Kt) (ru : List Nat) (m : List Nat) (g : Nat) (i : Nat) : Int := sm (fun j => if khu k g (m.getD j 10) then 0 else joyv k ru g (m.getD j 10)) i
theorem msj_b (k : Kt) (ru m : List Nat) (g i : Nat) : -(i * 999 : Int) ≤ msj k ru m g i ∧ msj k ru m g i ≤ i * 999 := by
  refine sm_b (B := 999) i (fun j _ => ?_)
  have := joyv_b k ru g (m.getD j 10)
  show -999 ≤ (if khu k g (m.getD j 10) then 0 else joyv k ru g (m.getD j 10)) ∧ (if khu k g (m.getD j 10) then 0 else joyv k ru g (m.getD j 10)) ≤ 999
  split <;> omega
theorem msj_s (k : Kt) (ru m : List Nat) (g i : Nat) : msj k ru m g (i + 1) = msj k ru m g i + (if khu k g (m.getD i 10) then 0 else joyv k ru g (m.getD i 10)) := rfl
def eaB (k : Kt) (M : Mn) (a g : Int) : Prop := (0 ≤ g ∧ g < kg k) ∧ whol M a = true
noncomputable def eaA (k : Kt) (M : Mn) (a g : Int) : Int := if 0 ≤ g ∧ g < kg k then (if whol M a then (pc (mpe k (M a.toNat) g.toNat (M a.toNat).length) : Nat) else -3) else -1
def eaR (k : Kt) (ru : List Nat) (M : Mn) (a g : Int) (r : List Int) : List Int := if 0 ≤ g ∧ g < kg k ∧ whol M a = true then [(mpe k (M a.toNat) g.toNat (M a.toNat).length : Int), (mse k (M a.toNat) g.toNat (M a.toNat).length : Int), msj k ru (M a.toNat) g.toNat (M a.toNat).length] else r
theorem mpe_lt (k : Kt) (m : List Nat) (g : Nat) {i : Nat} (h : i ≤ 10) : mpe k m g i < 1024 := bm_lt' (m := 10) _ h
theorem c_X11_eats (d : Nat) {μ : jM} {k : Kt} {M : Mn} {ru : List Nat} {r : List Int} (hk : KI μ k) (hM : MC μ M) (hok : Mkk k M) (ht : TaC μ ru) (hr : RI μ r) (a g : Int) : ∃ μ', CL (d + 5) 198 [jR 0, jI a, jI g] μ = rI (eaA k M a g) μ' ∧ fC μ' μ ∧ RI μ' (eaR k ru M a g r) := by
  unfold eaA eaR
  rw [e_X11_eats, c_X1_hasGuest _ hk]
  by_cases hg : 0 ≤ g ∧ g < kg k
  · obtain ⟨y, rfl⟩ := Int.eq_ofNat_of_zero_le hg.1
    have hy : y < kg k := by omega
    rw [if_pos hg, if_pos hg, bI_r, if_neg (by decide), c_X11_isWhole _ hM, bI_r]
    cases hl : whol M a with
    | false =>
      refine ⟨μ, ?_, fC_r μ, ?_⟩
      · rw [z_f, if_neg (by decide)]
      · rw [if_neg (fun z => by cases z.2.2)]
        exact hr
    | true =>
      obtain ⟨i, hi, rfl, hp, hkn⟩ := whol_k hok hl
      have hl10 := (hM i hi).2.1
      rw [mcap3] at hl10
      have h1 := (isM_f (hM i hi).1).1
      have h10 := hk.1.1
      have hpl := mpe_lt k (M i) y hl10
      obtain ⟨n, e1, f1⟩ := lp_i (fun (j : Nat) (n : jM) => EV (d + 4) T_X11_eats 1 [some (jR 0), none, some (jI y), some (jR (52 + 3 * i)), some (jI (mpe k (M i) y (M i).length : Nat)), some (jI (msj k ru (M i) y j)), some (jI j)] [] n) (fun _ n => fT n μ) (M i).length (fun j n hj fn => by
        have fn : fT n μ := fn
        have hmn := fC_MC (fT_C fn) hM i hi
        have hx := hkn j hj
        obtain ⟨n2, e2, f2⟩ := c_X9_of d (fT_KI fn hk) (fT_TaC fn ht) y _ hy hx
        have hb := msj_b k ru (M i) y j
        have hv := joyv_b k ru y ((M i).getD j 10)
        have htb : (mpe k (M i) y (M i).length).testBit j = !khu k y ((M i).getD j 10) := by
          unfold mpe
          rw [bm_tb, decide_eq_true hj, Bool.true_and]
        refine ⟨n2, ?_, fT_t fn f2⟩
        show EV (d + 4) T_X11_eats 1 [some (jR 0), none, some (jI y), some (jR (52 + 3 * i)), some (jI (mpe k (M i) y (M i).length : Nat)), some (jI (msj k ru (M i) y j)), some (jI j)] [] n = _
        rw [e_X11_eats_1, cd_t h1, c_X4_size _ hmn, bI_r, if_pos (by omega), cd_t h1, c_X4_at _ hmn j (by omega), bI_r, show lno ((M i).getD j 10) = (((M i).getD j 10 : Nat) : Int) from if_neg (by omega), e2, bI_r, tb_1 _ j (by omega) (by omega), htb, w_s j (by omega), msj_s]
        cases khu k y ((M i).getD j 10) with
        | true =>
          rw [show (if (!true) = true then (1 : Int) else 0) = 0 from rfl, Int.zero_mul, w_id (x := 0) (by decide) (by decide), w_id (by omega) (by omega)]
          rfl
        | false =>
          rw [show (if (!false) = true then (1 : Int) else 0) = 1 from rfl, Int.one_mul, w_id (x := joyv k ru y ((M i).getD j 10)) (by omega) (by omega), w_id (by omega) (by omega)]
          rfl) μ (fT_r μ)
      have f1 : fT n μ := f1
      have hmn := fC_MC (fT_C f1) hM i hi
      obtain ⟨n2, e2, f2, r2⟩ := c_X7_clear (d + 3) (μ := n)
      obtain ⟨n3, e3, f3, r3⟩ := c_X7_add (d + 3) r2 (mpe k (M i) y (M i).length : Nat) (by simp)
      have f30 : fC n3 μ := fC_t (fT_C f1) (fC_t (fC_row f2) (fC_row f3))
      obtain ⟨n4, e4, f4, r4⟩ := c_X7_add (d + 3) r3 (mse k (M i) y (M i).length : Nat) (by simp)
      obtain ⟨n5, e5, f5, r5⟩ := c_X7_add (d + 3) r4 (msj k ru (M i) y (M i).length) (by simp)
      refine ⟨n5, ?_, fC_t f30 (fC_t (fC_row f4) (fC_row f5)), ?_⟩
      · rw [z_t, gd_t (by omega), RF_22 i hi, cd_t h1, c_X4_placesEaten _ (hM i hi) hk hkn y hy, bI_r, if_pos rfl, Int.toNat_natCast, Int.toNat_natCast]
        refine Eq.trans e1 ?_
        show EV (d + 4) T_X11_eats 1 [some (jR 0), none, some (jI y), some (jR (52 + 3 * i)), some (jI (mpe k (M i) y (M i).length : Nat)), some (jI (msj k ru (M i) y (M i).length)), some (jI (M i).length)] [] n = _
        rw [e_X11_eats_1, cd_t h1, c_X4_size _ hmn, bI_r, if_neg (by omega), e2, bV_r, e3, bV_r, cd_t h1, c_X4_stuffsEaten _ (fC_MC f30 hM i hi) (fC_KI f30 hk) hkn y hy, bI_r, e4, bV_r, e5, bV_r, c_bc _ _ _ (by omega), bI_r]
      · rw [if_pos ⟨hg.1, hg.2, rfl⟩, Int.toNat_natCast, Int.toNat_natCast]
        exact r5
  · rw [if_neg hg, if_neg hg, if_neg (fun z => hg ⟨z.1, z.2.1⟩)]
    exact ⟨μ, rfl, fC_r μ, hr⟩
theorem c_X12_eats (d : Nat) {μ : jM} {k : Kt} {M : Mn} {ru : List Nat} {r : List Int} (hk : KR μ k) (hM : MR μ M) (hok : Mkk k M) (ht : TaR μ ru) (hr : RR μ r) (a g : Int) : ∃ μ', CL (d + 251) 308 [jR 69, jI a, jI g] μ = rI (eaA k M a g) μ' ∧ fR μ' μ ∧ RR μ' (eaR k ru M a g r) := by
  have h10 := hk.1.1
  have hk0 := th0_KR hk
  have hM0 := th0_MR hM
  have ht0 := th0_TaR ht
  unfold eaA eaR
  rw [e_X12_eats, c_X12_isGuest _ hk0]
  by_cases hg : 0 ≤ g ∧ g < kg k
  · obtain ⟨y, rfl⟩ := Int.eq_ofNat_of_zero_le hg.1
    have hy : y < kg k := by omega
    rw [if_pos hg, if_pos hg, bI_r, if_neg (by decide), c_X12_isWhole _ hM0 h10 hok, bI_r]
    cases hl : whol M a with
    | false =>
      refine ⟨_, ?_, fR_0 μ, ?_⟩
      · rw [z_f, if_neg (by decide)]
      · rw [if_neg (fun z => by cases z.2.2)]
        exact th0_RR hr
    | true =>
      obtain ⟨i, hi, rfl, hp, hkn⟩ := whol_k hok hl
      obtain ⟨hl10, m2, m3⟩ := hM0 i hi
      obtain ⟨n, e1, f1⟩ := lp_i (fun (j : Nat) (n : jM) => EV (d + 250) T_X12_eats 1 [some (jR 69), some (jI i), some (jI y), some (jI (cnt (fun j => !khu k y ((M i).getD j 10)) j : Nat)), some (jI (mpe k (M i) y j : Nat)), some (jI (msj k ru (M i) y j)), some (jI j), none] [] n) (fun _ n => fJ n (jup μ 69 20 0)) (M i).length (fun j n hj fn => by
        have fn : fJ n (jup μ 69 20 0) := fn
        have hx := hkn j hj
        have kn1 := fJ_KR fn hk0
        have e79 : n 79 (i : Int) = ((M i).length : Int) := by rw [fn.1 79 (by decide)]; exact m2
        have ex : n 78 ((10 * i + j : Nat) : Int) = (((M i).getD j 10 : Nat) : Int) := by
          rw [fn.1 78 (by decide)]
          exact (m3 j hj).trans (if_neg (by omega))
        obtain ⟨n2, e2, f2⟩ := c_X12_joyOf d kn1 (fJ_TaR fn ht0) y _ hy hx
        have hb := msj_b k ru (M i) y j
        have hv := joyv_b k ru y ((M i).getD j 10)
        have hc := cnt_le (fun j => !khu k y ((M i).getD j 10)) j
        have ec : cnt (fun j => !khu k y ((M i).getD j 10)) (j + 1) = cnt (fun j => !khu k y ((M i).getD j 10)) j + (if !khu k y ((M i).getD j 10) then 1 else 0) := rfl
        have e := bm_or (fun j => !khu k y ((M i).getD j 10)) j (by omega)
        have ep : mpe k (M i) y (j + 1) = bm (fun j => !khu k y ((M i).getD j 10)) (j + 1) := rfl
        have ep0 : mpe k (M i) y j = bm (fun j => !khu k y ((M i).getD j 10)) j := rfl
        have hmpb : mpe k (M i) y j < 1024 := mpe_lt k (M i) y (by omega)
        show ∃ n', EV (d + 250) T_X12_eats 1 [some (jR 69), some (jI i), some (jI y), some (jI (cnt (fun j => !khu k y ((M i).getD j 10)) j : Nat)), some (jI (mpe k (M i) y j : Nat)), some (jI (msj k ru (M i) y j)), some (jI j), none] [] n = _ ∧ _
        rw [e_X12_eats_1, gd_t (by omega), e79, if_pos (by omega), ix10 i j hi (by omega), gd_t (by omega), ex, c_X12_isHungry _ kn1 y _ hy hx, bI_r, w_s j (by omega), ec, msj_s]
        cases hh : khu k y ((M i).getD j 10) with
        | true =>
          rw [z_t]
          have e9 : mpe k (M i) y (j + 1) = mpe k (M i) y j := by
            rw [ep, ep0]
            show _ ||| (if (!khu k y ((M i).getD j 10)) = true then 2 ^ j else 0) = _
            rw [hh]
            exact Nat.or_zero _
          rw [e9]
          exact ⟨n, by rw [show (if (true : Bool) = true then (0 : Int) else joyv k ru y ((M i).getD j 10)) = 0 from rfl, Int.add_zero]; rfl, fn⟩
        | false =>
          rw [z_f, e2, bI_r, shl_1 j (by omega)]
          have e9 : jor (mpe k (M i) y j : Nat) ((2 ^ j : Nat) : Int) = ((mpe k (M i) y (j + 1) : Nat) : Int) := by
            rw [ep, ep0, ← e, hh]
            rfl
          rw [e9, w_s _ (by omega), w_id (x := msj k ru (M i) y j + joyv k ru y ((M i).getD j 10)) (by omega) (by omega)]
          exact ⟨n2, rfl, fJ_t fn f2⟩) (jup μ 69 20 0) (fJ_r _)
      have f1 : fJ n (jup μ 69 20 0) := f1
      have e79 : n 79 (i : Int) = ((M i).length : Int) := by rw [f1.1 79 (by decide)]; exact m2
      obtain ⟨n3, e3, f3, g3, r3⟩ := c_X12_tell (d + 249) (RR_0 n) (mpe k (M i) y (M i).length : Nat) (by simp)
      have f30 : fR n3 (jup μ 69 20 0) := fR_t (fR_J f1) (fR_t (fR_19 n 0) (fR_row f3 g3))
      obtain ⟨n4, e4, f4, g4, r4⟩ := c_X12_tell (d + 249) r3 (mse k (M i) y (M i).length : Nat) (by simp)
      obtain ⟨n5, e5, f5, g5, r5⟩ := c_X12_tell (d + 249) r4 (msj k ru (M i) y (M i).length) (by simp)
      have hpl := mpe_lt k (M i) y hl10
      have epc : cnt (fun j => !khu k y ((M i).getD j 10)) (M i).length = pc (mpe k (M i) y (M i).length) := by
        unfold mpe
        rw [pc_cnt (n := (M i).length) (bm_lt _ _) (by omega)]
        refine cnt_cg (fun x hx => ?_)
        rw [bm_tb, decide_eq_true hx, Bool.true_and]
      refine ⟨n5, ?_, fR_t (fR_0 μ) (fR_t f30 (fR_t (fR_row f4 g4) (fR_row f5 g5))), ?_⟩
      · rw [z_t, if_pos rfl, Int.toNat_natCast, Int.toNat_natCast]
        refine Eq.trans e1 ?_
        show EV (d + 250) T_X12_eats 1 [some (jR 69), some (jI i), some (jI y), some (jI (cnt (fun j => !khu k y ((M i).getD j 10)) (M i).length : Nat)), some (jI (mpe k (M i) y (M i).length : Nat)), some (jI (msj k ru (M i) y (M i).length)), some (jI (M i).length), none] [] n = _
        rw [e_X12_eats_1, gd_t (by omega), e79, if_neg (by omega), e3, bV_r, c_X12_ateOf _ (fR_KR f30 hk0) (fR_MR f30 hM0) i hi hkn y hy, bI_r, e4, bV_r, e5, bV_r, epc]
      · rw [if_pos ⟨hg.1, hg.2, rfl⟩, Int.toNat_natCast, Int.toNat_natCast]
        exact r5
  · rw [if_neg hg, if_neg hg, if_neg (fun z => hg ⟨z.1, z.2.1⟩)]
    exact ⟨_, rfl, fR_0 μ, th0_RR hr⟩
