/-! ## mend: the two calls -/
/-- the law with one STORE empty; -1: as it is -/
def mdl (w : Lw) (b : Int) : Lw := if b = -1 then w else (lsh w, lti w, lhe w, fun x => if x = b.toNat then 0 else lst w x)
def mdV (F : Int) (k : Kt) (w : Lw) (M : Mn) (a b : Int) : Int := mcI F k (mdl w b) (M a.toNat) (M a.toNat).length 0 10
def mdA (F : Int) (k : Kt) (w : Lw) (M : Mn) (a b : Int) : Int := if -1 ≤ b ∧ b ≤ 7 then (if whol M a then (if mdV F k w M a b < F then mdV F k w M a b else -2) else -3) else -1
def mdR (F : Int) (k : Kt) (w : Lw) (M : Mn) (a b : Int) (r : List Int) : List Int := if (-1 ≤ b ∧ b ≤ 7) ∧ whol M a = true ∧ mdV F k w M a b < F then mtl F k (mdl w b) (M a.toNat) (M a.toNat).length 0 10 else r
theorem mdl_ok {w : Lw} (hw : Lok w) (b : Int) : Lok (mdl w b) := by
  unfold mdl
  split
  · exact hw
  · refine ⟨hw.1, hw.2.1, hw.2.2.1, fun s hs => ?_⟩
    show (if s = b.toNat then 0 else lst w s) ≤ 99
    split
    · omega
    · exact hw.2.2.2 s hs
theorem mend_same {k : Kt} {w : Lw} {M : Mn} {a b : Int} (hl : (M a.toNat).length ≤ 10) (r : List Int) : mdA 100 k w M a b = mdA mF k w M a b ∧ mdR 100 k w M a b r = mdR mF k w M a b r := by
  have h := mcI_two (F := 100) (G := mF) (N := (M a.toNat).length) (by omega) (by show ((M a.toNat).length : Int) < 1000000; omega) k (mdl w b) (M a.toNat) (M a.toNat).length (Nat.le_refl _) 0 10
  have h1 := mcI_b (F := 100) (by decide) k (mdl w b) (M a.toNat) (M a.toNat).length 0 10
  have h2 : 0 ≤ mdV mF k w M a b ∧ mdV mF k w M a b ≤ 1000000 := mcI_b (F := mF) (by decide) k (mdl w b) (M a.toNat) (M a.toNat).length 0 10
  have h : two 100 1000000 (M a.toNat).length (mdV 100 k w M a b) (mdV mF k w M a b) := h
  unfold two at h
  unfold mdA mdR
  by_cases hb : -1 ≤ b ∧ b ≤ 7
  · rw [if_pos hb, if_pos hb]
    cases hwh : whol M a with
    | false =>
      rw [if_neg (by decide), if_neg (by decide), if_neg (fun z => by cases z.2.1), if_neg (fun z => by cases z.2.1)]
      exact ⟨rfl, rfl⟩
    | true =>
      rw [if_pos rfl, if_pos rfl]
      by_cases hv : mdV 100 k w M a b < 100
      · have hv2 : mdV mF k w M a b < mF := by show _ < (1000000 : Int); omega
        have he : mdV mF k w M a b = mdV 100 k w M a b := by omega
        rw [if_pos hv, if_pos hv2, if_pos ⟨hb, rfl, hv⟩, if_pos ⟨hb, rfl, hv2⟩, he]
        exact ⟨rfl, mtl_two (N := (M a.toNat).length) (by omega) (by show ((M a.toNat).length : Int) + 1 < 1000000; omega) k (mdl w b) (M a.toNat) _ (Nat.le_refl _) 0 10 hv⟩
      · have hv2 : ¬ mdV mF k w M a b < mF := by show ¬ _ < (1000000 : Int); omega
        rw [if_neg hv, if_neg hv2, if_neg (fun z => hv z.2.2), if_neg (fun z => hv2 z.2.2)]
        exact ⟨rfl, rfl⟩
  · rw [if_neg hb, if_neg hb, if_neg (fun z => hb z.1), if_neg (fun z => hb z.1)]
    exact ⟨rfl, rfl⟩
theorem c_X11_mend (d : Nat) {μ : jM} {k : Kt} {w : Lw} {M : Mn} {r : List Int} (hk : KI μ k) (hw : LI μ 16 w) (hM : MC μ M) (hok : Mkk k M) (hr : RI μ r) (a b : Int) : ∃ μ', CL (d + 6) 191 [jR 0, jI a, jI b] μ = rI (mdA 100 k w M a b) μ' ∧ fC μ' μ ∧ RI μ' (mdR 100 k w M a b r) := by
  rw [e_X11_mend]
  unfold mdA mdR
  by_cases hb : -1 ≤ b ∧ b ≤ 7
  · rw [if_neg (by omega), if_pos (by omega), if_pos hb, c_X11_isWhole _ hM, bI_r]
    cases hl : whol M a with
    | false =>
      rw [z_f, if_neg (by decide), if_neg (fun z => by cases z.2.1)]
      exact ⟨μ, rfl, fC_r μ, hr⟩
    | true =>
      obtain ⟨i, hi, rfl, hp, hkn⟩ := whol_k hok hl
      have hl10 := (hM i hi).2.1
      rw [mcap3] at hl10
      obtain ⟨μ1, e1, f1, l1⟩ := c_X2_copy (w2 := w) (d + 4) hw (show isL 18 from Or.inr (Or.inl rfl)) (by decide)
      have c1 := fC_18 f1
      -- from a law at 18 on
      have run : ∀ μ2, fC μ2 μ → LI μ2 18 (mdl w b) → RI μ2 r → ∃ μ', (bV (CL (d + 5) 179 [jR 0, jR 18] μ2) fun μ3 => bV (CL (d + 5) 121 [jR 29] μ3) fun μ4 => gd (0 ≤ (i : Int) ∧ (i : Int) < 3) (bI (CL (d + 5) 49 [jR 47, jR 29, jR (RF 22 (i : Int)), jR 50] μ4) fun x5 μ5 => rI x5 μ5)) = rI (if mdV 100 k w M (i : Int) b < 100 then mdV 100 k w M (i : Int) b else -2) μ' ∧ fC μ' μ ∧ RI μ' (if mdV 100 k w M (i : Int) b < 100 then mtl 100 k (mdl w b) (M i) (M i).length 0 10 else r) := fun μ2 c2 l2 r2 => by
        obtain ⟨μ3, e3, f3, t3, b3⟩ := c_X11_beginAnew d (fC_KI c2 hk) l2
        obtain ⟨μ4, e4, f4, s4⟩ := c_reach (d + 1) t3 b3 (Sok_0 k)
        have c4 : fC μ4 μ := fC_t c2 (fC_t ⟨fun q hq => f3 q (by omega), by rw [f3 12 (by omega)]⟩ ⟨fun q hq => f4 q (by omega), by rw [f4 12 (by omega)]⟩)
        have r4 : RI μ4 r := RI_cg r2 ((f4 50 (by decide)).trans (f3 50 (by omega))) ((f4 51 (by decide)).trans (f3 51 (by omega)))
        obtain ⟨μ5, e5, f5, r5⟩ := c_X3_mending d s4 (fC_MC c4 hM i hi) hl10 r4
        refine ⟨μ5, ?_, fC_t c4 ⟨fun q hq => f5 q (by omega) (by omega) (by omega), by rw [f5 12 (by decide) (by decide) (by decide)]⟩, r5⟩
        rw [e3, bV_r, e4, bV_r, gd_t (by omega), RF_22 i hi, e5, bI_r]
        rfl
      rw [z_t, if_pos rfl, e1, bV_r, Int.toNat_natCast]
      have r1 : RI μ1 r := RI_cg hr (f1 50 (by decide) (by decide)) (f1 51 (by decide) (by decide))
      have fin : ∀ μ', RI μ' (if mdV 100 k w M (i : Int) b < 100 then mtl 100 k (mdl w b) (M i) (M i).length 0 10 else r) → RI μ' (if (-1 ≤ b ∧ b ≤ 7) ∧ true = true ∧ mdV 100 k w M (i : Int) b < 100 then mtl 100 k (mdl w b) (M i) (M i).length 0 10 else r) := fun μ' h => by
        by_cases hv : mdV 100 k w M (i : Int) b < 100
        · rw [if_pos hv] at h
          rw [if_pos ⟨hb, rfl, hv⟩]
          exact h
        · rw [if_neg hv] at h
          rw [if_neg (fun z => hv z.2.2)]
          exact h
      by_cases hb1 : b = -1
      · have em : mdl w b = w := if_pos hb1
        obtain ⟨μ', e', c', r'⟩ := run μ1 c1 (by rw [em]; exact l1) r1
        rw [if_pos hb1]
        exact ⟨μ', e', c', fin μ' r'⟩
      · obtain ⟨s, rfl⟩ := Int.eq_ofNat_of_zero_le (show 0 ≤ b by omega)
        have em : mdl w (s : Int) = (lsh w, lti w, lhe w, fun x => if x = s then 0 else lst w x) := if_neg hb1
        have l2 := LI_restock l1 s 0 (by omega) (by decide)
        have f2 : ∀ q, q ≠ 19 → jup μ1 (18 + 1) (s : Int) 0 q = μ1 q := fun q hq => jup_ne hq
        obtain ⟨μ', e', c', r'⟩ := run (jup μ1 (18 + 1) (s : Int) 0) (fC_t c1 (fC_18 (fun q _ h => f2 q h))) (by rw [em]; exact l2) (RI_cg r1 (f2 50 (by decide)) (f2 51 (by decide)))
        rw [if_neg hb1, c_X2_restock _ l1 s (by omega), bI_r]
        exact ⟨μ', e', c', fin μ' r'⟩
  · rw [if_neg (show ¬ (-1 ≤ b ∧ b ≤ 7) from hb), if_neg (show ¬ ((-1 ≤ b ∧ b ≤ 7) ∧ whol M a = true ∧ mdV 100 k w M a b < 100) from fun z => hb z.1)]
    refine ⟨μ, ?_, fC_r μ, hr⟩
    by_cases h1 : b < -1
    · rw [if_pos h1]
    · rw [if_neg h1, if_neg (by omega)]
theorem c_X12_mend (d : Nat) {μ : jM} {k : Kt} {w : Lw} {M : Mn} {r : List Int} (hk : KR μ k) (hw : LR μ w) (hM : MR μ M) (hok : Mkk k M) (hr : RR μ r) (a b : Int) : ∃ μ', CL (d + 6) 298 [jR 69, jI a, jI b] μ = rI (mdA mF k w M a b) μ' ∧ fR μ' μ ∧ RR μ' (mdR mF k w M a b r) := by
  have c0 := fR_0 μ
  have hk0 := th0_KR hk
  have hw0 := th0_LR hw
  have hM0 := th0_MR hM
  have hr0 := th0_RR hr
  rw [e_X12_mend, c_X12_in]
  unfold mdA mdR
  by_cases hb : -1 ≤ b ∧ b ≤ 7
  · rw [if_pos hb, bI_r, if_neg (by decide), if_pos hb, c_X12_isWhole _ hM0 hk.1.1 hok, bI_r]
    cases hl : whol M a with
    | false =>
      rw [z_f, if_neg (by decide), if_neg (fun z => by cases z.2.1)]
      exact ⟨_, rfl, c0, hr0⟩
    | true =>
      obtain ⟨i, hi, rfl, hp, hkn⟩ := whol_k hok hl
      rw [z_t, if_pos rfl, Int.toNat_natCast]
      have fin : ∀ μ', RR μ' (if mdV mF k w M (i : Int) b < mF then mtl mF k (mdl w b) (M i) (M i).length 0 10 else r) → RR μ' (if (-1 ≤ b ∧ b ≤ 7) ∧ true = true ∧ mdV mF k w M (i : Int) b < mF then mtl mF k (mdl w b) (M i) (M i).length 0 10 else r) := fun μ' h => by
        by_cases hv : mdV mF k w M (i : Int) b < mF
        · rw [if_pos hv] at h
          rw [if_pos ⟨hb, rfl, hv⟩]
          exact h
        · rw [if_neg hv] at h
          rw [if_neg (fun z => hv z.2.2)]
          exact h
      -- the search, from a memory with its law
      have run : ∀ (a3 : Int) (μ2 : jM), KR μ2 k → LR μ2 (mdl w b) → MR μ2 M → RR μ2 r → ∃ μ3 : jM, (∀ q, q ≠ 69 → q ≠ 81 → q ≠ 92 → μ3 q = μ2 q) ∧ (∀ j, j ≠ 19 → μ3 69 j = μ2 69 j) ∧ RR μ3 (if mdV mF k w M (i : Int) b < mF then mtl mF k (mdl w b) (M i) (M i).length 0 10 else r) ∧ bI (CL (d + 5) 261 [jR 69] μ2) (fun x5 μ5 => EV (d + 5) T_X12_mend 1 [some (jR 69), some (jI i), some (jI b), some (jI a3), some (jI (M i).length), some (jI x5), none, none, none] [] μ5) = if b = -1 then (if mdV mF k w M (i : Int) b < mF then rI (mdV mF k w M (i : Int) b) μ3 else rI (-2) μ3) else gd (0 ≤ b ∧ b < 8) (if mdV mF k w M (i : Int) b < mF then rI (mdV mF k w M (i : Int) b) (jup μ3 70 b a3) else rI (-2) (jup μ3 70 b a3)) := fun a3 μ2 k2 w2 M2 r2 => by
        obtain ⟨μ3, e3, f3, t3⟩ := c_X12_mend_1 d k2 w2 i hi (M2 i hi) (hok i hi) b a3
        have hko := hk.1
        have h00 : Stt k 0 10 := S_ist hko (Sok_0 k)
        have hpl := c_X12_place (d + 4) μ3 0 10 (by decide) (by decide)
        have hpl : CL (d + 5) 260 [jI 0, jI (-1)] μ3 = rI (10 : Int) μ3 := hpl
        have hv : μ3 92 10 = mdV mF k w M (i : Int) b := t3 0 10 h00 (Nat.zero_le _)
        have k3 : KR μ3 k := KR_cg k2 (fun q _ _ => f3 q (by omega)) (by rw [f3 69 (by decide)]) (by rw [f3 69 (by decide)])
        have w3 : LR μ3 (mdl w b) := LR_cg w2 (f3 70 (by decide)) (by rw [f3 69 (by decide)]) (by rw [f3 69 (by decide)]) (by rw [f3 69 (by decide)])
        have M3 : MR μ3 M := MR_cg M2 (f3 79 (by decide)) (f3 78 (by decide))
        have n0 : ∀ q, q ≠ 69 → jup μ3 69 19 0 q = μ3 q := fun q hq => jup_ne hq
        have m0 : ∀ j : Int, j ≠ 19 → jup μ3 69 19 0 69 j = μ3 69 j := fun j hj => jup_m hj
        by_cases hlt : mdV mF k w M (i : Int) b < mF
        · obtain ⟨μ4, e4, f4, g4, r4⟩ := c_X12_tellMended_1 d i hi (hok i hi) (M i).length 0 10 (jup μ3 69 19 0) [] (KR_cg k3 (fun q _ _ => n0 q (by omega)) (m0 1 (by decide)) (m0 6 (by decide))) (LR_cg w3 (n0 70 (by decide)) (m0 9 (by decide)) (m0 10 (by decide)) (m0 11 (by decide))) (MRi_cg (M3 i hi) (n0 79 (by decide)) (n0 78 (by decide))) h00 (by rw [show pc 0 = 0 from rfl]; omega) (fun t n ht hpt => by rw [n0 92 (by decide)]; exact t3 t n ht hpt) hlt (RR_0 μ3) rfl
          refine ⟨μ4, fun q a b c => (f4 q a b).trans ((n0 q a).trans (f3 q c)), fun j hj => (g4 j hj).trans ((m0 j hj).trans (by rw [f3 69 (by decide)])), ?_, ?_⟩
          · rw [if_pos hlt]
            exact r4
          · rw [c_X12_all _ k2, bI_r]
            refine Eq.trans e3 ?_
            have e4' : CL (d + 5) 299 [jR 69, jI i, jI (M i).length] μ3 = rV μ4 := by
              rw [e_X12_tellMended]
              exact e4
            rw [e_X12_mend_1, if_pos (by decide), hpl, bI_r, gd_t (by decide), hv, if_pos hlt, e4', bV_r, if_pos hlt, if_pos hlt]
        · refine ⟨μ3, fun q _ _ c => f3 q c, fun j _ => by rw [f3 69 (by decide)], ?_, ?_⟩
          · rw [if_neg hlt]
            exact RR_cg r2 (f3 81 (by decide)) (by rw [f3 69 (by decide)])
          · rw [c_X12_all _ k2, bI_r]
            refine Eq.trans e3 ?_
            rw [e_X12_mend_1, if_pos (by decide), hpl, bI_r, gd_t (by decide), hv, if_neg hlt, if_neg hlt, if_neg hlt]
      have len : ∀ μ2 : jM, MR μ2 M → μ2 79 (i : Int) = ((M i).length : Int) := fun μ2 h => (h i hi).2.1
      by_cases hb1 : b = -1
      · have em : mdl w b = w := if_pos hb1
        obtain ⟨μ3, f3, g3, r3, e3⟩ := run 0 (jup μ 69 20 0) hk0 (by rw [em]; exact hw0) hM0 hr0
        rw [if_pos hb1] at e3
        refine ⟨μ3, ?_, fR_t c0 ⟨fun q hq => f3 q (by omega) (by omega) (by omega), fun j hj => g3 j (by omega)⟩, fin μ3 r3⟩
        rw [if_pos hb1, if_pos hb1, gd_t (by omega), len _ hM0]
        refine Eq.trans e3 ?_
        by_cases hlt : mdV mF k w M (i : Int) b < mF
        · rw [if_pos hlt, if_pos hlt]
        · rw [if_neg hlt, if_neg hlt]
      · obtain ⟨s, rfl⟩ := Int.eq_ofNat_of_zero_le (show 0 ≤ b by omega)
        have em : mdl w (s : Int) = (lsh w, lti w, lhe w, fun x => if x = s then 0 else lst w x) := if_neg hb1
        let μ1 : jM := jup (jup μ 69 20 0) 70 (s : Int) 0
        have n1 : ∀ q, q ≠ 70 → μ1 q = jup μ 69 20 0 q := fun q hq => jup_ne hq
        have v0 : jup μ 69 20 0 70 (s : Int) = (lst w s : Int) := hw0.2.2.2.2 s (by omega)
        have w1 : LR μ1 (mdl w (s : Int)) := by
          refine ⟨mdl_ok hw.1 _, ?_⟩
          rw [em]
          refine ⟨by rw [n1 69 (by decide)]; exact hw0.2.1, by rw [n1 69 (by decide)]; exact hw0.2.2.1, by rw [n1 69 (by decide)]; exact hw0.2.2.2.1, fun y hy => ?_⟩
          show jup (jup μ 69 20 0) 70 (s : Int) 0 70 (y : Int) = ((if y = s then 0 else lst w y : Nat) : Int)
          by_cases hys : y = s
          · rw [hys, jup_r, if_pos rfl]
            rfl
          · rw [jup_m (by omega), if_neg hys]
            exact hw0.2.2.2.2 y hy
        have hM1 : MR μ1 M := MR_cg hM0 (n1 79 (by decide)) (n1 78 (by decide))
        obtain ⟨μ3, f3, g3, r3, e3⟩ := run (lst w s : Nat) μ1 (KR_cg hk0 (fun q _ _ => n1 q (by omega)) (by rw [n1 69 (by decide)]) (by rw [n1 69 (by decide)])) w1 hM1 (RR_cg hr0 (n1 81 (by decide)) (by rw [n1 69 (by decide)]))
        rw [if_neg hb1, gd_t (by omega)] at e3
        let μ4 : jM := jup μ3 70 (s : Int) (lst w s : Nat)
        have n4 : ∀ q, q ≠ 70 → μ4 q = μ3 q := fun q hq => jup_ne hq
        have e70 : μ4 70 = μ 70 := by
          funext z
          by_cases hz : z = (s : Int)
          · rw [hz]
            show jup μ3 70 (s : Int) (lst w s : Nat) 70 (s : Int) = _
            rw [jup_r, ← v0, jup_ne (by decide)]
          · show jup μ3 70 (s : Int) (lst w s : Nat) 70 z = _
            rw [jup_m hz, f3 70 (by decide) (by decide) (by decide)]
            show jup (jup μ 69 20 0) 70 (s : Int) 0 70 z = _
            rw [jup_m hz, jup_ne (by decide)]
        refine ⟨μ4, ?_, ⟨fun q hq => ?_, fun j hj => ?_⟩, fin μ4 (RR_cg r3 (n4 81 (by decide)) (by rw [n4 69 (by decide)]))⟩
        · rw [if_neg hb1, gd_t (by omega), if_neg hb1, gd_t (by omega), gd_t (by omega), v0, show jup (jup μ 69 20 0) 70 (s : Int) 0 79 (i : Int) = ((M i).length : Int) from len μ1 hM1]
          refine Eq.trans e3 ?_
          by_cases hlt : mdV mF k w M (i : Int) (s : Int) < mF
          · rw [if_pos hlt, if_pos hlt]
          · rw [if_neg hlt, if_neg hlt]
        · by_cases h70 : q = 70
          · rw [h70]
            exact e70
          · rw [n4 q h70, f3 q (by omega) (by omega) (by omega), n1 q h70]
            exact jup_ne (by omega)
        · rw [n4 69 (by decide), g3 j (by omega), n1 69 (by decide)]
          exact jup_m (by omega)
  · rw [if_neg hb, bI_r, if_pos rfl, if_neg hb, if_neg (fun z => hb z.1)]
    exact ⟨_, rfl, c0, hr0⟩
