/-! ## what falls by another law -/
theorem lwo_put (w : Lw) (s t h : Nat) : lput (lput (lput w 0 s) 1 t) 2 h = lwo w s t h := rfl
theorem lwo_ok {w : Lw} (hw : Lok w) {s t h : Int} (hl : lawOk s t h) : Lok (lwo w s t h) := by
  obtain ⟨a, b, c⟩ := hl
  unfold lwo Lok lsh lti lhe lst
  exact ⟨by show 1 ≤ s.toNat ∧ s.toNat ≤ 8; omega, by show 1 ≤ t.toNat ∧ t.toNat ≤ 9; omega, by show h.toNat ≤ 2; omega, hw.2.2.2⟩
theorem mft_lt (k : Kt) (w : Lw) (m : List Nat) : (mft k w m < m.length) ↔ mft k w m ≠ m.length := by
  have := mft_le k w m
  omega
theorem fC_18 {μ' μ : jM} (f : ∀ q, q ≠ 18 → q ≠ 19 → μ' q = μ q) : fC μ' μ := ⟨fun q hq => f q (by omega) (by omega), by rw [f 12 (by decide) (by decide)]⟩
theorem c_X11_falls (d : Nat) {μ : jM} {k : Kt} {w : Lw} {M : Mn} (hk : KI μ k) (hw : LI μ 16 w) (hM : MC μ M) (hok : Mkk k M) (s t h : Int) : ∃ μ', CL (d + 7) 165 [jR 0, jI s, jI t, jI h] μ = rI (if 1 ≤ s ∧ s ≤ 8 ∧ 1 ≤ t ∧ t ≤ 9 ∧ 0 ≤ h ∧ h ≤ 2 then (bm (mfa k w (lwo w s t h) M) 3 : Nat) else -1) μ' ∧ (∀ q, q ≠ 18 → q ≠ 19 → μ' q = μ q) := by
  rw [e_X11_falls, c_X2_allows]
  by_cases h1 : 1 ≤ s ∧ s ≤ 8
  · rw [if_pos (show (0 : Int) = 0 ∧ 1 ≤ s ∧ s ≤ 8 ∨ (0 : Int) = 1 ∧ 1 ≤ s ∧ s ≤ 9 ∨ (0 : Int) = 2 ∧ 0 ≤ s ∧ s ≤ 2 by omega), bI_r, if_neg (by decide), c_X2_allows]
    by_cases h2 : 1 ≤ t ∧ t ≤ 9
    · rw [if_pos (show (1 : Int) = 0 ∧ 1 ≤ t ∧ t ≤ 8 ∨ (1 : Int) = 1 ∧ 1 ≤ t ∧ t ≤ 9 ∨ (1 : Int) = 2 ∧ 0 ≤ t ∧ t ≤ 2 by omega), bI_r, if_neg (by decide), c_X2_allows]
      by_cases h3 : 0 ≤ h ∧ h ≤ 2
      · rw [if_pos (show (2 : Int) = 0 ∧ 1 ≤ h ∧ h ≤ 8 ∨ (2 : Int) = 1 ∧ 1 ≤ h ∧ h ≤ 9 ∨ (2 : Int) = 2 ∧ 0 ≤ h ∧ h ≤ 2 by omega), bI_r, if_neg (by decide), if_pos (show 1 ≤ s ∧ s ≤ 8 ∧ 1 ≤ t ∧ t ≤ 9 ∧ 0 ≤ h ∧ h ≤ 2 by omega)]
        obtain ⟨a, rfl⟩ := Int.eq_ofNat_of_zero_le (show 0 ≤ s by omega)
        obtain ⟨b, rfl⟩ := Int.eq_ofNat_of_zero_le (show 0 ≤ t by omega)
        obtain ⟨c, rfl⟩ := Int.eq_ofNat_of_zero_le (show 0 ≤ h by omega)
        obtain ⟨μ1, e1, f1, l1⟩ := c_X2_copy (w2 := w) (d + 5) hw (show isL 18 from Or.inr (Or.inl rfl)) (by decide)
        obtain ⟨μ2, e2, f2, l2⟩ := c_X2_change (d + 5) l1 0 a (by omega)
        obtain ⟨μ3, e3, f3, l3⟩ := c_X2_change (d + 5) l2 1 b (by omega)
        obtain ⟨μ4, e4, f4, l4⟩ := c_X2_change (d + 5) l3 2 c (by omega)
        rw [lwo_put] at l4
        have f : ∀ q, q ≠ 18 → q ≠ 19 → μ4 q = μ q := fun q a b => (f4 q a).trans ((f3 q a).trans ((f2 q a).trans (f1 q a b)))
        have c4 := fC_18 f
        refine ⟨μ4, ?_, f⟩
        rw [e1, bV_r]
        have e2' : CL (d + 6) 38 [jR 18, jI 0, jI a] μ1 = rI (lget w 0 : Nat) μ2 := e2
        have e3' : CL (d + 6) 38 [jR 18, jI 1, jI b] μ2 = rI (lget (lput w 0 a) 1 : Nat) μ3 := e3
        have e4' : CL (d + 6) 38 [jR 18, jI 2, jI c] μ3 = rI (lget (lput (lput w 0 a) 1 b) 2 : Nat) μ4 := e4
        rw [e2', bI_r, e3', bI_r, e4', bI_r]
        have hk4 := fC_KI c4 hk
        have hw4 := fC_LI c4 hw
        have hM4 := fC_MC c4 hM
        have := lp_0 (fun i : Nat => EV (d + 6) T_X11_falls 1 [some (jR 0), none, none, none, some (jI (bm (mfa k w (lwo w a b c) M) i : Nat)), some (jI i)] [] μ4) 3 (fun i hi => by
          have hb : bm (mfa k w (lwo w a b c) M) i < 2 ^ 3 := bm_lt' _ (by omega)
          have h2i := p2_le (show i ≤ 10 by omega)
          rw [e_X11_falls_1, if_pos (by omega), c_X11_isWhole _ hM4, bI_r, w_s i (by omega)]
          have eb : bm (mfa k w (lwo w a b c) M) (i + 1) = bm (mfa k w (lwo w a b c) M) i ||| (if mfa k w (lwo w a b c) M i then 2 ^ i else 0) := rfl
          rw [eb]
          cases hl : whol M (i : Int) with
          | false =>
            rw [if_pos (by rfl), show mfa k w (lwo w a b c) M i = false by unfold mfa; rw [hl]; rfl, if_neg (by decide), Nat.or_zero]
          | true =>
            obtain ⟨x, hx, hxi, -, -⟩ := whol_k hok hl
            rw [z_t, gd_t (by omega), RF_22 i hi, cd_t (isM_f (hM i hi).1).1, c_X4_fault _ (hM4 i hi) hk4 hw4 (hok i hi), bI_r]
            have hle := mft_le k w (M i)
            have hle2 := mft_le k (lwo w a b c) (M i)
            by_cases h5 : mft k w (M i) < (M i).length
            · rw [if_pos h5, if_neg (by omega), show mfa k w (lwo w a b c) M i = false by unfold mfa; rw [hl, decide_eq_false (show ¬ mft k w (M i) = (M i).length by omega)]; rfl, if_neg (by decide), Nat.or_zero]
            · rw [if_neg h5, if_pos rfl, gd_t (by omega), cd_t (isM_f (hM i hi).1).1, c_X4_fault _ (hM4 i hi) hk4 l4 (hok i hi), bI_r]
              by_cases h6 : mft k (lwo w a b c) (M i) < (M i).length
              · rw [if_pos h6, if_neg (by omega), show mfa k w (lwo w a b c) M i = true by unfold mfa; rw [hl, decide_eq_true (show mft k w (M i) = (M i).length by omega), decide_eq_true (show mft k (lwo w a b c) (M i) ≠ (M i).length by omega)]; rfl, if_pos rfl, shl_1 i (by omega), or_nn _ _ (by omega) (by omega)]
              · rw [if_neg h6, if_pos rfl, show mfa k w (lwo w a b c) M i = false by unfold mfa; rw [hl, decide_eq_false (show ¬ mft k (lwo w a b c) (M i) ≠ (M i).length by omega)]; rw [Bool.and_false, Bool.and_false], if_neg (by decide), Nat.or_zero])
        refine Eq.trans this ?_
        show EV (d + 6) T_X11_falls 1 [some (jR 0), none, none, none, some (jI (bm (mfa k w (lwo w a b c) M) 3 : Nat)), some (jI (3 : Nat))] [] μ4 = _
        rw [e_X11_falls_1, if_neg (by decide)]
      · rw [if_neg (show ¬ ((2 : Int) = 0 ∧ 1 ≤ h ∧ h ≤ 8 ∨ (2 : Int) = 1 ∧ 1 ≤ h ∧ h ≤ 9 ∨ (2 : Int) = 2 ∧ 0 ≤ h ∧ h ≤ 2) by omega), bI_r, if_pos rfl, if_neg (show ¬ (1 ≤ s ∧ s ≤ 8 ∧ 1 ≤ t ∧ t ≤ 9 ∧ 0 ≤ h ∧ h ≤ 2) by omega)]
        exact ⟨μ, rfl, fun _ _ _ => rfl⟩
    · rw [if_neg (show ¬ ((1 : Int) = 0 ∧ 1 ≤ t ∧ t ≤ 8 ∨ (1 : Int) = 1 ∧ 1 ≤ t ∧ t ≤ 9 ∨ (1 : Int) = 2 ∧ 0 ≤ t ∧ t ≤ 2) by omega), bI_r, if_pos rfl, if_neg (show ¬ (1 ≤ s ∧ s ≤ 8 ∧ 1 ≤ t ∧ t ≤ 9 ∧ 0 ≤ h ∧ h ≤ 2) by omega)]
      exact ⟨μ, rfl, fun _ _ _ => rfl⟩
  · rw [if_neg (show ¬ ((0 : Int) = 0 ∧ 1 ≤ s ∧ s ≤ 8 ∨ (0 : Int) = 1 ∧ 1 ≤ s ∧ s ≤ 9 ∨ (0 : Int) = 2 ∧ 0 ≤ s ∧ s ≤ 2) by omega), bI_r, if_pos rfl, if_neg (show ¬ (1 ≤ s ∧ s ≤ 8 ∧ 1 ≤ t ∧ t ≤ 9 ∧ 0 ≤ h ∧ h ≤ 2) by omega)]
    exact ⟨μ, rfl, fun _ _ _ => rfl⟩
theorem c_X12_isLaw (d : Nat) {μ : jM} (x v : Int) : CL (d + 2) 235 [jI x, jI v] μ = rI (if x = 0 ∧ 1 ≤ v ∧ v ≤ 8 ∨ x = 1 ∧ 1 ≤ v ∧ v ≤ 9 ∨ x = 2 ∧ 0 ≤ v ∧ v ≤ 2 then 1 else 0) μ := by
  rw [e_X12_isLaw]
  by_cases h0 : x = 0
  · rw [if_pos h0, c_X12_in, bI_r]
    by_cases h1 : 1 ≤ v ∧ v ≤ 8
    · rw [if_pos h1, gd_t (by omega), if_pos (by omega)]
    · rw [if_neg h1, gd_t (by omega), if_neg (by omega)]
  · rw [if_neg h0]
    by_cases h1 : x = 1
    · rw [if_pos h1, c_X12_in, bI_r]
      by_cases h1 : 1 ≤ v ∧ v ≤ 9
      · rw [if_pos h1, gd_t (by omega), if_pos (by omega)]
      · rw [if_neg h1, gd_t (by omega), if_neg (by omega)]
    · rw [if_neg h1]
      by_cases h2 : x = 2
      · rw [if_pos h2, c_X12_in, bI_r]
        by_cases h1 : 0 ≤ v ∧ v ≤ 2
        · rw [if_pos h1, if_neg (by decide), gd_t (by omega), if_pos (by omega)]
        · rw [if_neg h1, if_pos rfl, gd_t (by omega), if_neg (by omega)]
      · rw [if_neg h2, gd_t (by omega), if_neg (by omega)]
theorem c_X12_isLawful (d : Nat) {μ : jM} {k : Kt} {w : Lw} {M : Mn} (hk : KR μ k) (hw : LR μ w) (hM : MR μ M) (hok : Mkk k M) (i : Nat) (hi : i < 3) (hp : 0 < (M i).length) : ∃ μ', CL (d + 5) 258 [jR 69, jI i] μ = rI (if mft k w (M i) = (M i).length then 1 else 0) μ' ∧ fLk μ' μ := by
  obtain ⟨μ1, μ2, e1, e2, f2, -, -, -⟩ := c_lookAll d hk hw i hi (hM i hi) (hok i hi) hp
  refine ⟨μ2, ?_, f2⟩
  rw [e_X12_isLawful, e1, bV_r, e2, bI_r, gd_t (by omega), (fR_MR (fR_k f2) hM i hi).2.1]
  by_cases h : mft k w (M i) = (M i).length
  · rw [if_pos (by omega), if_pos h]
    rfl
  · rw [if_neg (by omega), if_neg h]
    rfl
theorem andnot_bit (b i : Nat) (hb : b < 8) (hi : i < 3) : jand (b : Int) (jxor (2 ^ i : Nat) (-1)) = ((b &&& (7 - 2 ^ i) : Nat) : Int) := by
  have hb' : b = 0 ∨ b = 1 ∨ b = 2 ∨ b = 3 ∨ b = 4 ∨ b = 5 ∨ b = 6 ∨ b = 7 := by omega
  have hi' : i = 0 ∨ i = 1 ∨ i = 2 := by omega
  rcases hb' with rfl | rfl | rfl | rfl | rfl | rfl | rfl | rfl <;> rcases hi' with rfl | rfl | rfl <;> decide +kernel
theorem bm3_clear (P Q : Nat → Bool) (i : Nat) (hi : i < 3) : bm (fun z => P z && !(decide (z < i) && Q z)) 3 &&& (7 - 2 ^ i) = bm (fun z => P z && !(decide (z < i) && Q z) && decide (z ≠ i)) 3 := by
  have hi' : i = 0 ∨ i = 1 ∨ i = 2 := by omega
  apply Nat.eq_of_testBit_eq
  intro z
  rw [Nat.testBit_and, bm_tb, bm_tb]
  by_cases hz : z < 3
  · have hz' : z = 0 ∨ z = 1 ∨ z = 2 := by omega
    rw [decide_eq_true hz, Bool.true_and, Bool.true_and]
    congr 1
    rcases hz' with rfl | rfl | rfl <;> rcases hi' with rfl | rfl | rfl <;> decide
  · rw [decide_eq_false hz, Bool.false_and, Bool.false_and, Bool.false_and]
theorem c_X12_falls (d : Nat) {μ : jM} {k : Kt} {w : Lw} {M : Mn} (hk : KR μ k) (hw : LR μ w) (hM : MR μ M) (hok : Mkk k M) (s t h : Int) : ∃ μ', CL (d + 6) 259 [jR 69, jI s, jI t, jI h] μ = rI (if 1 ≤ s ∧ s ≤ 8 ∧ 1 ≤ t ∧ t ≤ 9 ∧ 0 ≤ h ∧ h ≤ 2 then (bm (mfa k w (lwo w s t h) M) 3 : Nat) else -1) μ' ∧ fR μ' μ ∧ (∀ q, q ≠ 69 → μ' q = μ q) ∧ μ' 69 19 = μ 69 19 := by
  have c0 := fR_0 μ
  have fin : fR (jup μ 69 20 0) μ ∧ (∀ q, q ≠ 69 → jup μ 69 20 0 q = μ q) ∧ jup μ 69 20 0 69 19 = μ 69 19 := ⟨c0, fun q hq => jup_ne hq, jup_m (by decide)⟩
  rw [e_X12_falls, c_X12_isLaw]
  by_cases h1 : 1 ≤ s ∧ s ≤ 8
  · rw [if_pos (show (0 : Int) = 0 ∧ 1 ≤ s ∧ s ≤ 8 ∨ (0 : Int) = 1 ∧ 1 ≤ s ∧ s ≤ 9 ∨ (0 : Int) = 2 ∧ 0 ≤ s ∧ s ≤ 2 by omega), bI_r, if_neg (by decide), c_X12_isLaw]
    by_cases h2 : 1 ≤ t ∧ t ≤ 9
    · rw [if_pos (show (1 : Int) = 0 ∧ 1 ≤ t ∧ t ≤ 8 ∨ (1 : Int) = 1 ∧ 1 ≤ t ∧ t ≤ 9 ∨ (1 : Int) = 2 ∧ 0 ≤ t ∧ t ≤ 2 by omega), bI_r, if_neg (by decide), c_X12_isLaw]
      by_cases h3 : 0 ≤ h ∧ h ≤ 2
      · rw [if_pos (show (2 : Int) = 0 ∧ 1 ≤ h ∧ h ≤ 8 ∨ (2 : Int) = 1 ∧ 1 ≤ h ∧ h ≤ 9 ∨ (2 : Int) = 2 ∧ 0 ≤ h ∧ h ≤ 2 by omega), bI_r, if_neg (by decide), if_pos (show 1 ≤ s ∧ s ≤ 8 ∧ 1 ≤ t ∧ t ≤ 9 ∧ 0 ≤ h ∧ h ≤ 2 by omega)]
        have hw' := lwo_ok hw.1 (show lawOk s t h from ⟨h1, h2, h3⟩)
        have h10 := hk.1.1
        let P : Nat → Bool := fun i => whol M (i : Int) && decide (mft k w (M i) = (M i).length)
        let Q : Nat → Bool := fun i => decide (mft k (lwo w s t h) (M i) = (M i).length)
        have whi : ∀ i : Nat, whol M (i : Int) = true → 0 < (M i).length := fun i hz => by
          obtain ⟨x, hx, hxi, hp, -⟩ := whol_k hok hz
          have : x = i := by omega
          rw [← this]
          exact hp
        obtain ⟨μ1, e1, f1⟩ := lp_i (fun (i : Nat) (m : jM) => EV (d + 5) T_X12_falls 1 [some (jR 69), some (jI s), some (jI t), some (jI h), some (jI (bm P i : Nat)), some (jI i), none, none, none] [] m) (fun _ m => fLk m (jup μ 69 20 0)) 3 (fun i m hi f => by
          have cm := fR_t c0 (fR_k f)
          have hb : bm P i < 2 ^ 3 := bm_lt' _ (by omega)
          have h2i := p2_le (show i ≤ 10 by omega)
          have eb : bm P (i + 1) = bm P i ||| (if P i then 2 ^ i else 0) := rfl
          have hM1 := fR_MR cm hM
          have or0 : jor ((bm P i : Nat) : Int) 0 = ((bm P i : Nat) : Int) := by
            have := or_nn (bm P i) 0 (by omega) (by omega)
            rw [Nat.or_zero] at this
            exact this
          rw [e_X12_falls_1, if_pos (by omega), c_X12_isWhole _ hM1 h10 hok, bI_r, w_s i (by omega), or0, eb]
          cases hl : whol M (i : Int) with
          | false =>
            refine ⟨m, ?_, f⟩
            rw [if_pos (by rfl), show P i = false by show (whol M (i : Int) && _) = false; rw [hl]; rfl, if_neg (by decide), Nat.or_zero]
          | true =>
            obtain ⟨m2, e2, f2⟩ := c_X12_isLawful d (fR_KR cm hk) (fR_LR cm hw) hM1 hok i hi (whi i hl)
            refine ⟨m2, ?_, fLk_t f f2⟩
            rw [z_t, e2, bI_r]
            by_cases h5 : mft k w (M i) = (M i).length
            · rw [if_pos h5, if_neg (by decide), show P i = true by show (whol M (i : Int) && _) = true; rw [hl, decide_eq_true h5]; rfl, if_pos rfl, shl_1 i (by omega), or_nn _ _ (by omega) (by omega)]
            · rw [if_neg h5, if_pos rfl, show P i = false by show (whol M (i : Int) && _) = false; rw [hl, decide_eq_false h5]; rfl, if_neg (by decide), Nat.or_zero]) (jup μ 69 20 0) (fLk_r _)
        have c1 := fR_t c0 (fR_k f1)
        have g9 : μ1 69 9 = (lsh w : Int) := (c1.2 9 (by omega)).trans hw.2.1
        have g10 : μ1 69 10 = (lti w : Int) := (c1.2 10 (by omega)).trans hw.2.2.1
        have g11 : μ1 69 11 = (lhe w : Int) := (c1.2 11 (by omega)).trans hw.2.2.2.1
        let μ2 : jM := jup (jup (jup μ1 69 9 s) 69 10 t) 69 11 h
        have n2 : ∀ q, q ≠ 69 → μ2 q = μ1 q := fun q hq => (jup_ne hq).trans ((jup_ne hq).trans (jup_ne hq))
        have m2 : ∀ j : Int, j ≠ 9 → j ≠ 10 → j ≠ 11 → μ2 69 j = μ1 69 j := fun j a b c => (jup_m c).trans ((jup_m b).trans (jup_m a))
        have hk2 : KR μ2 k := KR_cg (fR_KR c1 hk) (fun q _ _ => n2 q (by omega)) (m2 1 (by decide) (by decide) (by decide)) (m2 6 (by decide) (by decide) (by decide))
        have hM2 : MR μ2 M := MR_cg (fR_MR c1 hM) (n2 79 (by decide)) (n2 78 (by decide))
        have hw2 : LR μ2 (lwo w s t h) := by
          refine ⟨hw', ?_, ?_, ?_, fun x hx => ?_⟩
          · show jup (jup (jup μ1 69 9 s) 69 10 t) 69 11 h 69 9 = ((s.toNat : Nat) : Int)
            rw [jup_m (by decide), jup_m (by decide), jup_r]
            omega
          · show jup (jup (jup μ1 69 9 s) 69 10 t) 69 11 h 69 10 = ((t.toNat : Nat) : Int)
            rw [jup_m (by decide), jup_r]
            omega
          · show jup (jup (jup μ1 69 9 s) 69 10 t) 69 11 h 69 11 = ((h.toNat : Nat) : Int)
            rw [jup_r]
            omega
          · rw [n2 70 (by decide)]
            exact (fR_LR c1 hw).2.2.2.2 x hx
        obtain ⟨μ3, e3, f3⟩ := lp_i (fun (i : Nat) (m : jM) => EV (d + 5) T_X12_falls 2 [some (jR 69), none, none, none, some (jI (bm (fun z => P z && !(decide (z < i) && Q z)) 3 : Nat)), some (jI (lsh w : Nat)), some (jI (lti w : Nat)), some (jI (lhe w : Nat)), some (jI i)] [] m) (fun _ m => fLk m μ2) 3 (fun i m hi f => by
          have cm := fR_k f
          have hb : bm (fun z => P z && !(decide (z < i) && Q z)) 3 < 2 ^ 3 := bm_lt _ _
          have h2i := p2_le (show i ≤ 10 by omega)
          have hM1 := fR_MR cm hM2
          have eb : Q i = false ∨ P i = false → bm (fun z => P z && !(decide (z < i) && Q z)) 3 = bm (fun z => P z && !(decide (z < i + 1) && Q z)) 3 := fun hz => bm_cg (fun z _ => by
            by_cases hzi : z = i
            · rw [hzi]
              rcases hz with q | q <;> rw [q] <;> simp
            · by_cases hlt : z < i
              · rw [decide_eq_true hlt, decide_eq_true (show z < i + 1 by omega)]
              · rw [decide_eq_false hlt, decide_eq_false (show ¬ z < i + 1 by omega)])
          rw [e_X12_falls_2, if_pos (by omega), c_X12_has _ _ _ _ (by omega) (by omega), bI_r, w_s i (by omega), bm_tb, decide_eq_true hi, Bool.true_and, decide_eq_false (Nat.lt_irrefl i), Bool.false_and, Bool.not_false, Bool.and_true]
          cases hl : P i with
          | false =>
            refine ⟨m, ?_, f⟩
            rw [if_pos (by rfl), eb (Or.inr hl)]
          | true =>
            have hwh : whol M (i : Int) = true := (Bool.and_eq_true_iff.mp hl).1
            obtain ⟨m2, e2, f2⟩ := c_X12_isLawful d (fR_KR cm hk2) (fR_LR cm hw2) hM1 hok i hi (whi i hwh)
            refine ⟨m2, ?_, fLk_t f f2⟩
            rw [z_t, e2, bI_r]
            by_cases h5 : mft k (lwo w s t h) (M i) = (M i).length
            · rw [if_pos h5, if_neg (by decide), shl_1 i (by omega), andnot_bit _ _ (by omega) hi, bm3_clear P Q i hi]
              have e9 : bm (fun z => P z && !(decide (z < i) && Q z) && decide (z ≠ i)) 3 = bm (fun z => P z && !(decide (z < i + 1) && Q z)) 3 := bm_cg (fun z _ => by
                by_cases hzi : z = i
                · have hq : Q i = true := decide_eq_true h5
                  rw [hzi, hq]
                  simp
                · rw [decide_eq_true hzi, Bool.and_true]
                  by_cases hlt : z < i
                  · rw [decide_eq_true hlt, decide_eq_true (show z < i + 1 by omega)]
                  · rw [decide_eq_false hlt, decide_eq_false (show ¬ z < i + 1 by omega)])
              rw [e9]
            · rw [if_neg h5, if_pos rfl, eb (Or.inl (decide_eq_false h5))]) μ2 (fLk_r _)
        have f3' : fLk μ3 μ2 := f3
        refine ⟨jup (jup (jup μ3 69 9 (lsh w : Nat)) 69 10 (lti w : Nat)) 69 11 (lhe w : Nat), ?_, ⟨fun q hq => ?_, fun j hj => ?_⟩, fun q hq => ?_, ?_⟩
        · refine Eq.trans e1 ?_
          show EV (d + 5) T_X12_falls 1 [some (jR 69), some (jI s), some (jI t), some (jI h), some (jI (bm P 3 : Nat)), some (jI (3 : Nat)), none, none, none] [] μ1 = _
          rw [e_X12_falls_1, if_neg (by decide), g9, g10, g11]
          have e0 : bm P 3 = bm (fun z => P z && !(decide (z < 0) && Q z)) 3 := bm_cg (fun z _ => by rw [decide_eq_false (Nat.not_lt_zero z), Bool.false_and, Bool.not_false, Bool.and_true])
          rw [e0]
          refine Eq.trans e3 ?_
          show EV (d + 5) T_X12_falls 2 [some (jR 69), none, none, none, some (jI (bm (fun z => P z && !(decide (z < 3) && Q z)) 3 : Nat)), some (jI (lsh w : Nat)), some (jI (lti w : Nat)), some (jI (lhe w : Nat)), some (jI (3 : Nat))] [] μ3 = _
          rw [e_X12_falls_2, if_neg (by decide)]
          have e9 : bm (fun z => P z && !(decide (z < 3) && Q z)) 3 = bm (mfa k w (lwo w s t h) M) 3 := bm_cg (fun z hz => by
            rw [decide_eq_true hz, Bool.true_and]
            show (whol M (z : Int) && decide (mft k w (M z) = (M z).length) && !decide (mft k (lwo w s t h) (M z) = (M z).length)) = mfa k w (lwo w s t h) M z
            unfold mfa
            rw [Bool.and_assoc]
            by_cases h6 : mft k (lwo w s t h) (M z) = (M z).length
            · rw [decide_eq_true h6, decide_eq_false (show ¬ mft k (lwo w s t h) (M z) ≠ (M z).length from fun q => q h6)]
              rfl
            · rw [decide_eq_false h6, decide_eq_true h6]
              rfl)
          rw [e9]
        · rw [jup_ne (by omega), jup_ne (by omega), jup_ne (by omega), f3'.1 q (by omega), n2 q (by omega), c1.1 q hq]
        · by_cases j9 : j = 9
          · rw [j9, jup_m (by decide), jup_m (by decide), jup_r, hw.2.1]
          · by_cases j10 : j = 10
            · rw [j10, jup_m (by decide), jup_r, hw.2.2.1]
            · by_cases j11 : j = 11
              · rw [j11, jup_r, hw.2.2.2.1]
              · rw [jup_m j11, jup_m j10, jup_m j9, f3'.2 j (by omega), m2 j j9 j10 j11, c1.2 j hj]
        · rw [jup_ne hq, jup_ne hq, jup_ne hq, f3'.1 q hq, n2 q hq, f1.1 q hq, jup_ne hq]
        · rw [jup_m (by decide), jup_m (by decide), jup_m (by decide), f3'.2 19 (by omega), m2 19 (by decide) (by decide) (by decide), f1.2 19 (by omega), jup_m (by decide)]
      · rw [if_neg (show ¬ ((2 : Int) = 0 ∧ 1 ≤ h ∧ h ≤ 8 ∨ (2 : Int) = 1 ∧ 1 ≤ h ∧ h ≤ 9 ∨ (2 : Int) = 2 ∧ 0 ≤ h ∧ h ≤ 2) by omega), bI_r, if_pos rfl, if_neg (show ¬ (1 ≤ s ∧ s ≤ 8 ∧ 1 ≤ t ∧ t ≤ 9 ∧ 0 ≤ h ∧ h ≤ 2) by omega)]
        exact ⟨_, rfl, fin⟩
    · rw [if_neg (show ¬ ((1 : Int) = 0 ∧ 1 ≤ t ∧ t ≤ 8 ∨ (1 : Int) = 1 ∧ 1 ≤ t ∧ t ≤ 9 ∨ (1 : Int) = 2 ∧ 0 ≤ t ∧ t ≤ 2) by omega), bI_r, if_pos rfl, if_neg (show ¬ (1 ≤ s ∧ s ≤ 8 ∧ 1 ≤ t ∧ t ≤ 9 ∧ 0 ≤ h ∧ h ≤ 2) by omega)]
      exact ⟨_, rfl, fin⟩
  · rw [if_neg (show ¬ ((0 : Int) = 0 ∧ 1 ≤ s ∧ s ≤ 8 ∨ (0 : Int) = 1 ∧ 1 ≤ s ∧ s ≤ 9 ∨ (0 : Int) = 2 ∧ 0 ≤ s ∧ s ≤ 2) by omega), bI_r, if_pos rfl, if_neg (show ¬ (1 ≤ s ∧ s ≤ 8 ∧ 1 ≤ t ∧ t ≤ 9 ∧ 0 ≤ h ∧ h ≤ 2) by omega)]
    exact ⟨_, rfl, fin⟩
