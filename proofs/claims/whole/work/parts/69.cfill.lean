/-! ## the class: holes filled -/
theorem c_X11_layFilled (d : Nat) {μ : jM} {k : Kt} {w : Lw} {p : Nat} {m : List Nat} (hk : KI μ k) (hw : LI μ 16 w) (hm : MI μ p m) (hp : 52 ≤ p) (hok : Mok (kn k) m) (hl : m.length ≤ 10) : ∃ μ', CL (d + 6) 194 [jR 0, jR p] μ = rV μ' ∧ (∀ q, q < 29 ∨ 45 < q → μ' q = μ q) ∧ SP μ' k w (Am m) 0 10 ∧ PI μ' k 1 (fun _ _ => 1) 2047 999 (fun _ => 0) := by
  have h10 := hk.1.1
  have h1 := (isM_f hm.1).1
  have hp60 : p ≤ 58 := by rcases hm.1 with z | z | z | z <;> omega
  obtain ⟨μ1, e1, f1, t1, b1⟩ := c_X11_beginAnew d hk hw
  let Ai : Nat → Ap := fun i j x => if j < i then Am m j x else true
  obtain ⟨μ2, e2, f2, t2, b2⟩ := lp_i (fun (i : Nat) (μ2 : jM) => EV (d + 5) T_X11_layFilled 1 [some (jR 0), some (jR p), some (jI i)] [] μ2) (fun i μ2 => (∀ q, q < 29 ∨ 35 < q → μ2 q = μ q) ∧ TL μ2 k w ∧ TB μ2 0 10 (Ai i)) m.length (fun i μ2 hi hI => by
    obtain ⟨f2, t2, b2⟩ := hI
    have m2 : MI μ2 p m := MI_cg hm (f2 p (by omega)) (f2 (p + 1) (by omega))
    show ∃ s', EV (d + 5) T_X11_layFilled 1 _ [] μ2 = _ ∧ _
    rw [e_X11_layFilled_1, cd_t h1, c_X4_size _ m2, bI_r, if_pos (by omega), cd_t h1, c_X4_at _ m2 i (by omega), bI_r, w_s i (by omega)]
    by_cases hz : m.getD i 10 = 10
    · rw [if_pos (lno_m1.mpr hz)]
      refine ⟨μ2, rfl, f2, t2, ?_⟩
      have : Ai (i + 1) = Ai i := by
        funext j x
        show (if j < i + 1 then Am m j x else true) = if j < i then Am m j x else true
        by_cases hj : j < i
        · rw [if_pos hj, if_pos (by omega)]
        · rw [if_neg hj]
          by_cases hji : j = i
          · rw [if_pos (by omega), hji]
            unfold Am
            rw [hz]
            rfl
          · rw [if_neg (by omega)]
      rw [this]
      exact b2
    · have hlt : m.getD i 10 < kn k := by
        rcases Mok_at hok i with z | z
        · exact absurd z hz
        · exact z
      rw [if_neg (fun z => hz (lno_m1.mp z)), cd_t h1, c_X4_at _ m2 i (by omega), bI_r, show lno (m.getD i 10) = ((m.getD i 10 : Nat) : Int) from if_neg hz, shl_1 _ (by omega)]
      obtain ⟨e3, b3⟩ := c_X8_allow (d + 4) b2 i (by omega) _ _ (alw_1 (show m.getD i 10 < 10 by omega))
      rw [e3, bV_r]
      refine ⟨_, rfl, fun q hq => (jup_ne (by omega)).trans (f2 q hq), TL_cg t2 (fun q hq => jup_ne (by omega)) (fun j _ => by rw [jup_ne (by decide)]), ?_⟩
      have : (fun j => if j = i then (fun x => x == m.getD i 10) else Ai i j) = Ai (i + 1) := by
        funext j x
        show _ = if j < i + 1 then Am m j x else true
        by_cases hji : j = i
        · rw [if_pos hji, if_pos (by omega), hji]
          unfold Am
          have e10 : (m.getD i 10 == 10) = false := by simpa using hz
          rw [e10, Bool.false_or]
          exact Bool.beq_comm
        · rw [if_neg hji]
          show (if j < i then Am m j x else true) = _
          by_cases hj : j < i
          · rw [if_pos hj, if_pos (by omega)]
          · rw [if_neg hj, if_neg (by omega)]
      rw [this] at b3
      exact b3) μ1 ⟨f1, t1, b1⟩
  have eA : Ai m.length = Am m := by
    funext j x
    show (if j < m.length then Am m j x else true) = Am m j x
    by_cases hj : j < m.length
    · rw [if_pos hj]
    · rw [if_neg hj]
      unfold Am
      rw [getD_hi (by omega)]
      rfl
  rw [eA] at b2
  obtain ⟨μ3, e3, f3, s3⟩ := c_reach (d + 1) t2 b2 (Sok_0 k)
  obtain ⟨μ4, e4, f4, p4⟩ := c_X5_begin (d + 3) μ3 k (fun _ _ => 1)
  have k4 : KI μ4 k := KI_cg hk (fun q _ _ => (f4 q (by omega) (by omega)).trans ((f3 q (by omega)).trans (f2 q (by omega))))
  obtain ⟨μ5, e5, f5, p5⟩ := c_X5_weighAll (d + 3) k4 p4 (by decide) 1 (fun _ => rfl)
  refine ⟨μ5, ?_, fun q hq => (f5 q (by omega)).trans ((f4 q (by omega) (by omega)).trans ((f3 q (by omega)).trans (f2 q (by omega)))), SP_cg s3 (fun q _ _ => (f5 q (by omega)).trans (f4 q (by omega) (by omega))), p5⟩
  rw [e_X11_layFilled, e1, bV_r]
  refine Eq.trans e2 ?_
  have m2 : MI μ2 p m := MI_cg hm (f2 p (by omega)) (f2 (p + 1) (by omega))
  show EV (d + 5) T_X11_layFilled 1 _ [] μ2 = _
  rw [e_X11_layFilled_1, cd_t h1, c_X4_size _ m2, bI_r, if_neg (by omega), e3, bV_r, e4, bV_r, e5, bV_r]
/-- rows of just so many, sought -/
theorem gpl_n {k : Kt} (hk : Kok k) {w : Lw} {A : Ap} {C : Nat → Int} (n s l : Nat) : gpl k w A 0 10 2047 999 C n n s l = (rr k w A 0 10 s l && decide (pc s = n)) := by
  unfold gpl
  cases hr : rr k w A 0 10 s l with
  | false => rfl
  | true =>
    have hst := rr_st hk (Sok_0 k) hr
    have ht : ∀ x, x < 11 → (2047 : Nat).testBit x = true := by decide
    have e0 : pc 0 = 0 := rfl
    rw [ht l (by omega), Bool.true_and, Bool.true_and, Bool.true_and]
    by_cases h : pc s = n
    · rw [gl_iff.mpr ⟨⟨l, by omega, hr, ht l (by omega)⟩, by omega, by omega, Or.inl rfl⟩, decide_eq_true h]
    · rw [decide_eq_false h]
      cases hg : gl k w A 0 10 2047 999 C n n s with
      | false => rfl
      | true =>
        have := (gl_iff.mp hg).2
        omega
theorem c_seekN (d : Nat) {μ : jM} {k : Kt} {w : Lw} {A : Ap} (h : SP μ k w A 0 10) (hp : PI μ k 1 (fun _ _ => 1) 2047 999 (fun _ => 0)) (n : Nat) : ∃ μ' g, CL (d + 5) 83 [jR 36, jR 29, jI n, jI n] μ = rI g μ' ∧ (∀ q, q ≠ 36 → q ≠ 44 → μ' q = μ q) ∧ ((g = -1000000 ∧ nbI k w A 0 n 0 10 = 0) ∨ (g ≠ -1000000 ∧ 0 < nbI k w A 0 n 0 10 ∧ n ≤ kn k ∧ μ' 36 7 = (n : Int) ∧ ∀ s : Nat, s < 2 ^ kn k → μ' 44 s = (mk k w A 0 10 (fun s l => rr k w A 0 10 s l && decide (pc s = n)) n s : Int))) := by
  obtain ⟨hk, h10, h0, hN⟩ := SP_k h
  have hS0 := Sok_0 k
  have hval : ∀ s l, rr k w A 0 10 s l = true → wo (fun _ _ => 1) (nd s 0) 1 = (pc s : Int) := fun s l hs => by
    have := wo_c hk hS0 hs 1 (Or.inl rfl)
    rw [this, show pc 0 = 0 from rfl]
    simp
  obtain ⟨μ', g, e1, f1, g1, r1⟩ := c_seek d h hp (fun _ _ _ _ => by decide) (fun _ _ => by decide) n n (fun s l hs => by
    rw [gpl_n hk] at hs
    have := (Bool.and_eq_true_iff.mp hs).1
    rw [hval s l this]
    omega) (fun s t g hs ht _ _ => by
    have := (gl_iff.mp hs).2
    have := (gl_iff.mp ht).2
    omega)
  have hnb := cr_nb k w A n 0 0 10 rfl h0 hk
  have hcg := crp_rr hk hS0 (w := w) (A := A) (G := fun s l => rr k w A 0 10 s l && decide (pc s = n)) (G' := fun s _ => decide (pc s = n)) (fun s l hs => by rw [hs, Bool.true_and]) n
  have hcg2 := crG hk (w := w) (A := A) n n 0 10 (by rw [show pc 0 = 0 from rfl]; omega) h0
  refine ⟨μ', g, e1, f1, ?_⟩
  rcases r1 with ⟨hg, hno⟩ | ⟨hg, m, hm, m7, bp, hcr, hG, hmk⟩
  · refine Or.inl ⟨hg, ?_⟩
    have hge := nbI_ge k w A n 0 0 10
    cases hc : cr (SS k w A 0) (fun _ _ => true) n 0 10 with
    | false =>
      rw [hc, decide_eq_false_iff_not] at hnb
      omega
    | true =>
      exfalso
      have h2 : cr (SS k w A 0) (fun s l => rr k w A 0 10 s l && decide (pc s = n)) n 0 10 = true := by
        rw [hcg.1, hcg2.1]
        exact hc
      obtain ⟨t, y, h3, h4, h5⟩ := cr_rc hk hS0 n (by rw [rr_0]; simp) h2
      have := hno t y
      rw [gpl_n hk, h4] at this
      cases this
  · have hmn : m = n := by
      obtain ⟨⟨s, l, h1, h2⟩, -, h3, -⟩ := bp
      have h4 := h3 s l h1 h2
      rw [gpl_n hk] at h1
      have h5 := (Bool.and_eq_true_iff.mp h1).2
      rw [decide_eq_true_eq] at h5
      have e0 : pc 0 = 0 := rfl
      omega
    subst hmn
    have egn : g = (m : Int) := by
      obtain ⟨⟨s, l, h1, h2⟩, -, -, -⟩ := bp
      have h2 : wo (fun _ _ => 1) (nd s 0) 1 = g := h2
      rw [gpl_n hk] at h1
      have h5 := Bool.and_eq_true_iff.mp h1
      rw [decide_eq_true_eq] at h5
      rw [hval s l h5.1] at h2
      omega
    have eG : (fun s l => gpl k w A 0 10 2047 999 (fun _ => 0) m m s l && decide (wo (fun _ _ => 1) (nd s 0) 1 = g)) = fun s l => rr k w A 0 10 s l && decide (pc s = m) := by
      funext s l
      rw [gpl_n hk]
      cases hr : rr k w A 0 10 s l with
      | false => rfl
      | true =>
        rw [hval s l hr, egn, Bool.true_and]
        by_cases hps : pc s = m
        · rw [decide_eq_true hps, decide_eq_true (by omega)]
          rfl
        · rw [decide_eq_false hps]
          rfl
    have hcr : cr (SS k w A 0) (fun s l => gpl k w A 0 10 2047 999 (fun _ => 0) m m s l && decide (wo (fun _ _ => 1) (nd s 0) 1 = g)) m 0 10 = true := hcr
    have hmk : ∀ s : Nat, s < 2 ^ kn k → μ' 44 s = (mk k w A 0 10 (fun s l => gpl k w A 0 10 2047 999 (fun _ => 0) m m s l && decide (wo (fun _ _ => 1) (nd s 0) 1 = g)) m s : Int) := hmk
    rw [eG] at hcr hmk
    rw [hcg.1, hcg2.1] at hcr
    rw [hcr, decide_eq_true_eq] at hnb
    exact Or.inr ⟨by omega, hnb, hm, m7, hmk⟩
theorem pth_n {k : Kt} (hk : Kok k) {w : Lw} {A : Ap} {n : Nat} (hc : 0 < nbI k w A 0 n 0 10) : cr (SS k w A 0) (fun s l => rr k w A 0 10 s l && decide (pc s = n)) n 0 10 = true ∧ pth (SS k w A 0) (fun s l => rr k w A 0 10 s l && decide (pc s = n)) n 0 10 = pth (SS k w A 0) (fun _ _ => true) n 0 10 := by
  have hS0 := Sok_0 k
  have h0 := hS0.1
  have hnb := cr_nb k w A n 0 0 10 rfl h0 hk
  have hcg := crp_rr hk hS0 (w := w) (A := A) (G := fun s l => rr k w A 0 10 s l && decide (pc s = n)) (G' := fun s _ => decide (pc s = n)) (fun s l hs => by rw [hs, Bool.true_and]) n
  have hcg2 := crG hk (w := w) (A := A) n n 0 10 (by rw [show pc 0 = 0 from rfl]; omega) h0
  rw [decide_eq_true hc] at hnb
  have h1 : cr (SS k w A 0) (fun s l => rr k w A 0 10 s l && decide (pc s = n)) n 0 10 = true := by
    rw [hcg.1, hcg2.1]
    exact hnb.symm
  exact ⟨h1, (hcg.2 h1).trans (hcg2.2 hnb.symm)⟩
def flR (k : Kt) (w : Lw) (m : List Nat) : List Int := if 0 < nbI k w (Am m) 0 m.length 0 10 then ri (pth (SS k w (Am m) 0) (fun _ _ => true) m.length 0 10) else []
theorem c_X11_fills (d : Nat) {μ : jM} {k : Kt} {w : Lw} {M : Mn} {r : List Int} (hk : KI μ k) (hw : LI μ 16 w) (hM : MC μ M) (hok : Mkk k M) (hr : RI μ r) (a : Int) : ∃ μ', CL (d + 7) 192 [jR 0, jI a] μ = rL (if laid M a then nbI k w (Am (M a.toNat)) 0 (M a.toNat).length 0 10 else -3) μ' ∧ fC μ' μ ∧ RI μ' (if laid M a then flR k w (M a.toNat) else r) := by
  rw [e_X11_fills, c_X11_isLaid _ hM, bI_r]
  cases hl : laid M a with
  | false => exact ⟨μ, rfl, fC_r μ, hr⟩
  | true =>
    obtain ⟨i, hi, rfl, hp⟩ := laid_i hl
    have hm := hM i hi
    have h1 := (isM_f hm.1).1
    have hl10 := hm.2.1
    rw [mcap3] at hl10
    have hko := hk.1
    obtain ⟨μ1, e1, f1, s1, p1⟩ := c_X11_layFilled d hk hw hm (by omega) (hok i hi) hl10
    have c1 : fC μ1 μ := ⟨fun q hq => f1 q (by omega), by rw [f1 12 (by omega)]⟩
    obtain ⟨μ2, e2, f2, r2⟩ := c_X7_clear (d + 5) (μ := μ1)
    have s2 : SP μ2 k w (Am (M i)) 0 10 := SP_cg s1 (fun q _ _ => f2 q (by omega) (by omega))
    have p2 : PI μ2 k 1 (fun _ _ => 1) 2047 999 (fun _ => 0) := PI_cg p1 (fun q _ _ _ _ => f2 q (by omega) (by omega)) (fun j _ => by rw [f2 36 (by decide) (by decide)])
    obtain ⟨μ3, g, e3, f3, r3⟩ := c_seekN (d + 1) s2 p2 (M i).length
    have s3 : SP μ3 k w (Am (M i)) 0 10 := SP_cg s2 (fun q _ _ => f3 q (by omega) (by omega))
    have c3 : fC μ3 μ := fC_t (fC_t c1 (fC_row f2)) ⟨fun q hq => f3 q (by omega) (by omega), by rw [f3 12 (by decide) (by decide)]⟩
    have r30 : RI μ3 [] := RI_cg r2 (f3 50 (by decide) (by decide)) (f3 51 (by decide) (by decide))
    have head : ∀ o, (if g = -1000000 then bL (CL (d + 6) 46 [jR 47, jR 29, jI (M i).length] μ3) (fun x6 μ6 => rL x6 μ6) else bV (CL (d + 6) 89 [jR 36, jR 29, jR 50] μ3) fun μ7 => bL (CL (d + 6) 46 [jR 47, jR 29, jI (M i).length] μ7) fun x8 μ8 => rL x8 μ8) = o → (if (if true = true then (1 : Int) else 0) = 0 then rL (-3) μ else gd (0 ≤ (i : Int) ∧ (i : Int) < 3) (bif Nat.beq (KD (RF 22 (i : Int))) 4 then bI (CL (d + 6) 58 [jR (RF 22 (i : Int))] μ) fun x2 μ2 => gd (0 ≤ (i : Int) ∧ (i : Int) < 3) (bV (CL (d + 6) 194 [jR 0, jR (RF 22 (i : Int))] μ2) fun μ3 => bV (CL (d + 6) 104 [jR 50] μ3) fun μ4 => bI (CL (d + 6) 83 [jR 36, jR 29, jI x2, jI x2] μ4) fun x5 μ5 => if x5 = (-1000000) then bL (CL (d + 6) 46 [jR 47, jR 29, jI x2] μ5) fun x6 μ6 => rL x6 μ6 else bV (CL (d + 6) 89 [jR 36, jR 29, jR 50] μ5) fun μ7 => bL (CL (d + 6) 46 [jR 47, jR 29, jI x2] μ7) fun x8 μ8 => rL x8 μ8) else none)) = o := fun o ho => by
      rw [z_t, gd_t (by omega), RF_22 i hi, cd_t h1, c_X4_size _ hm, bI_r, gd_t (by omega), e1, bV_r, e2, bV_r, e3, bI_r]
      exact ho
    show ∃ μ', _ = rL (nbI k w (Am (M i)) 0 (M i).length 0 10) μ' ∧ fC μ' μ ∧ RI μ' (flR k w (M i))
    unfold flR
    rcases r3 with ⟨hg, hnb⟩ | ⟨hg, hnb, hnk, h7, hmk⟩
    · obtain ⟨μ4, e4, f4⟩ := c_X3_countRows (d + 1) s3 (M i).length hl10
      rw [NW_nb hko w _ _ _ _ (Sok_0 k)] at e4
      refine ⟨μ4, head _ ?_, fC_t c3 ⟨fun q hq => f4 q (by omega), by rw [f4 12 (by decide)]⟩, ?_⟩
      · rw [if_pos hg, e4, bL_r]
      · rw [if_neg (by omega)]
        exact RI_cg r30 (f4 50 (by decide)) (f4 51 (by decide))
    · obtain ⟨hcr, hpe⟩ := pth_n hko hnb
      obtain ⟨μ4, e4, f4, r4⟩ := c_X5_tell (d + 2) s3 h7 hmk hcr r30 (by simp; omega)
      have s4 : SP μ4 k w (Am (M i)) 0 10 := SP_cg s3 (fun q _ _ => f4 q (by omega) (by omega))
      obtain ⟨μ5, e5, f5⟩ := c_X3_countRows (d + 1) s4 (M i).length hl10
      rw [NW_nb hko w _ _ _ _ (Sok_0 k)] at e5
      refine ⟨μ5, head _ ?_, fC_t (fC_t c3 (fC_row f4)) ⟨fun q hq => f5 q (by omega), by rw [f5 12 (by decide)]⟩, ?_⟩
      · rw [if_neg hg, e4, bV_r, e5, bL_r]
      · rw [if_pos hnb]
        rw [List.nil_append, hpe] at r4
        exact RI_cg r4 (f5 50 (by decide)) (f5 51 (by decide))
theorem c_X11_sure (d : Nat) {μ : jM} {k : Kt} {w : Lw} {M : Mn} (hk : KI μ k) (hw : LI μ 16 w) (hM : MC μ M) (hok : Mkk k M) {r : List Int} (hr : RI μ r) (a p : Int) : ∃ μ', CL (d + 7) 193 [jR 0, jI a, jI p] μ = rI (if laid M a = true ∧ 0 ≤ p ∧ p < (M a.toNat).length then (sur k w (Am (M a.toNat)) (M a.toNat).length p.toNat : Nat) else -3) μ' ∧ fC μ' μ ∧ RI μ' r := by
  rw [e_X11_sure, c_X11_isLaid _ hM, bI_r]
  cases hl : laid M a with
  | false =>
    rw [if_neg (show ¬ (false = true ∧ 0 ≤ p ∧ p < ((M a.toNat).length : Int)) from fun z => by cases z.1)]
    exact ⟨μ, rfl, fC_r μ, hr⟩
  | true =>
    obtain ⟨i, hi, rfl, hp⟩ := laid_i hl
    have hm := hM i hi
    have h1 := (isM_f hm.1).1
    have hl10 := hm.2.1
    rw [mcap3] at hl10
    have hko := hk.1
    have h10 := hko.1
    have hN := p2_le h10
    rw [z_t, Int.toNat_natCast]
    by_cases hp0 : p < 0
    · rw [if_pos hp0, if_neg (show ¬ (true = true ∧ 0 ≤ p ∧ p < ((M i).length : Int)) from fun z => by omega)]
      exact ⟨μ, rfl, fC_r μ, hr⟩
    · obtain ⟨x, rfl⟩ := Int.eq_ofNat_of_zero_le (show 0 ≤ p by omega)
      rw [if_neg hp0, gd_t (by omega), RF_22 i hi]
      simp only [cd_t h1]
      rw [c_X4_size _ hm, bI_r]
      by_cases hx : x < (M i).length
      · obtain ⟨μ1, e1, f1, s1, p1⟩ := c_X11_layFilled d hk hw hm (by omega) (hok i hi) hl10
        have c1 : fC μ1 μ := ⟨fun q hq => f1 q (by omega), by rw [f1 12 (by omega)]⟩
        obtain ⟨μ2, g, e2, f2, r2⟩ := c_seekN (d + 1) s1 p1 (M i).length
        have s2 : SP μ2 k w (Am (M i)) 0 10 := SP_cg s1 (fun q _ _ => f2 q (by omega) (by omega))
        have c2 : fC μ2 μ := fC_t c1 ⟨fun q hq => f2 q (by omega) (by omega), by rw [f2 12 (by decide) (by decide)]⟩
        have rr2 : RI μ2 r := RI_cg hr ((f2 50 (by decide) (by decide)).trans (f1 50 (by omega))) ((f2 51 (by decide) (by decide)).trans (f1 51 (by omega)))
        rw [if_pos (by omega), gd_t (by omega), c_X4_size _ hm, bI_r, gd_t (by omega), e1, bV_r, e2, bI_r, if_pos (show True ∧ (0 : Int) ≤ (x : Int) ∧ (x : Int) < ((M i).length : Int) from ⟨trivial, by omega, by omega⟩), Int.toNat_natCast]
        refine ⟨μ2, ?_, c2, rr2⟩
        rcases r2 with ⟨hg, hnb⟩ | ⟨hg, hnb, hnk, h7, hmk⟩
        · have : sur k w (Am (M i)) (M i).length x = 0 := by
            unfold sur
            rw [if_neg (by omega)]
          rw [if_pos hg, this]
          rfl
        · let b := pso k w (Am (M i)) 0 10 (fun s l => rr k w (Am (M i)) 0 10 s l && decide (pc s = (M i).length)) (M i).length x (2 ^ kn k)
          have hb2 : b < 2048 := pso_lt _ _ _ _ _ _ _ _ _
          have e0 : pc 0 = 0 := rfl
          -- which ones are there
          have hbt : ∀ y, b.testBit y = (decide (y < 11) && cr (SS k w (Aat (Am (M i)) x y) 0) (fun _ _ => true) (M i).length 0 10) := fun y => by
            show (pso _ _ _ _ _ _ _ _ _).testBit y = _
            rw [pso_tb]
            apply Bool.eq_iff_iff.mpr
            rw [anb_iff, Bool.and_eq_true, decide_eq_true_eq, at_iff hko hx]
            constructor
            · rintro ⟨s, hs, h2⟩
              rw [Bool.and_eq_true, decide_eq_true_eq] at h2
              obtain ⟨h3, h4⟩ := h2
              have hps : pc s = x + 1 := by omega
              unfold mk at h4
              rw [bm_tb, Bool.and_eq_true, decide_eq_true_eq] at h4
              refine ⟨h4.1, s, ?_⟩
              have h5 := h4.2
              unfold mr at h5
              rw [Bool.and_eq_true, Bool.and_eq_true] at h5
              obtain ⟨h6, -, h7⟩ := h5
              have h8 : rc k w (Am (M i)) 0 10 (x + 1) s y = true := by
                unfold rr at h6
                rw [hps, e0, Nat.sub_zero] at h6
                exact h6
              refine ⟨h8, ?_⟩
              rw [hps, e0, Nat.zero_add] at h7
              have e1 := crp (S := SS k w (Am (M i)) 0) (S' := SS k w (Am (M i)) 0) (G := fun s l => rr k w (Am (M i)) 0 10 s l && decide (pc s = (M i).length)) (G' := fun s _ => decide (pc s = (M i).length)) (fun s l => rr k w (Am (M i)) 0 10 s l = true) (fun _ _ _ _ => rfl) (fun _ _ _ h h2 => (rr_go hko (Sok_0 k) h h2).1) (fun s l hs => by rw [hs, Bool.true_and]) ((M i).length - (x + 1)) s y h6
              rw [e1.1, (crG hko (M i).length ((M i).length - (x + 1)) s y (by omega) hs).1] at h7
              exact h7
            · rintro ⟨hy, s, h8, h7⟩
              have hst := rc_ok hko (Sok_0 k) _ _ _ h8
              have hps : pc s = x + 1 := by rw [hst.2, e0]; omega
              have hs := hst.1.1
              have h6 : rr k w (Am (M i)) 0 10 s y = true := by
                unfold rr
                rw [hps, e0, Nat.sub_zero]
                exact h8
              refine ⟨s, hs, ?_⟩
              rw [Bool.and_eq_true, decide_eq_true_eq]
              refine ⟨by omega, ?_⟩
              unfold mk
              rw [bm_tb, Bool.and_eq_true, decide_eq_true_eq]
              refine ⟨hy, ?_⟩
              unfold mr
              have e1 := crp (S := SS k w (Am (M i)) 0) (S' := SS k w (Am (M i)) 0) (G := fun s l => rr k w (Am (M i)) 0 10 s l && decide (pc s = (M i).length)) (G' := fun s _ => decide (pc s = (M i).length)) (fun s l => rr k w (Am (M i)) 0 10 s l = true) (fun _ _ _ _ => rfl) (fun _ _ _ h h2 => (rr_go hko (Sok_0 k) h h2).1) (fun s l hs => by rw [hs, Bool.true_and]) ((M i).length - (x + 1)) s y h6
              rw [h6, hps, e0, Nat.zero_add, e1.1, (crG hko (M i).length ((M i).length - (x + 1)) s y (by omega) hs).1, h7, decide_eq_true (by omega)]
              rfl
          have hb10 : b.testBit 10 = false := by
            rw [hbt 10]
            cases hc : cr (SS k w (Aat (Am (M i)) x 10) 0) (fun _ _ => true) (M i).length 0 10 with
            | false => rfl
            | true =>
              obtain ⟨t, h8, -⟩ := (at_iff hko hx).mp hc
              rw [rc_s, Bool.and_eq_true, Bool.and_eq_true, decide_eq_true_eq] at h8
              omega
          have hb1 : b < 1024 := by
            apply Nat.lt_pow_two_of_testBit (n := 10)
            intro y hy
            by_cases hy10 : y = 10
            · rw [hy10]
              exact hb10
            · exact tb_hi (n := 11) hb2 (by omega)
          have hsur := sur_eq hko w (Am (M i)) hx b hb1 (fun y hy => by
            rw [hbt y, decide_eq_true (show y < 11 by omega), Bool.true_and, cr_nb k w (Aat (Am (M i)) x y) (M i).length 0 0 10 rfl (Nat.two_pow_pos _) hko]) hnb
          rw [if_neg hg, c_X5_possibleAt _ s2 hmk x (by omega), bI_r]
          show bI (CL _ 0 [jI (b : Int)] μ2) _ = _
          rw [c_bc _ _ _ hb2, bI_r, ← hsur]
          by_cases hpb : pc b = 1
          · rw [if_pos (by omega), if_pos hpb]
          · rw [if_neg (by omega), if_neg hpb]
            rfl
      · rw [if_neg (show ¬ (x : Int) < ((M i).length : Int) by omega), if_neg (show ¬ (True ∧ (0 : Int) ≤ (x : Int) ∧ (x : Int) < ((M i).length : Int)) from fun z => by omega)]
        exact ⟨μ, rfl, fC_r μ, hr⟩
