/-! ## rare and sheet: both sides -/
def rar (k : Kt) : Nat → Int
  | 0 => -1
  | s + 1 => if 0 < pc (khs k s) ∧ (rar k s = -1 ∨ pc (khs k s) < pc (khs k (rar k s).toNat)) then (s : Int) else rar k s
theorem rar_b (k : Kt) : ∀ n, -1 ≤ rar k n ∧ rar k n < n ∧ (rar k n ≠ -1 → 0 < pc (khs k (rar k n).toNat)) ∧ (rar k n = -1 → ∀ s, s < n → pc (khs k s) = 0)
  | 0 => ⟨(show (-1 : Int) ≤ -1 by decide), (show (-1 : Int) < ((0 : Nat) : Int) by decide), fun h => absurd rfl h, fun _ s hs => absurd hs (Nat.not_lt_zero s)⟩
  | n + 1 => by
    obtain ⟨h1, h2, h3, h4⟩ := rar_b k n
    unfold rar
    by_cases h : 0 < pc (khs k n) ∧ (rar k n = -1 ∨ pc (khs k n) < pc (khs k (rar k n).toNat))
    · rw [if_pos h, Int.toNat_natCast]
      exact ⟨by omega, by omega, fun _ => h.1, fun z => by omega⟩
    · rw [if_neg h]
      refine ⟨h1, by omega, h3, fun z s hs => ?_⟩
      by_cases hsn : s = n
      · rw [hsn]
        by_cases hp : 0 < pc (khs k n)
        · exact absurd ⟨hp, Or.inl z⟩ h
        · omega
      · exact h4 z s (by omega)
theorem khs_lt {k : Kt} (h10 : kn k ≤ 10) (s : Nat) : khs k s < 2 ^ 10 := bm_lt' _ h10
def raA (k : Kt) : Int := if rar k 8 = -1 then -2 else rar k 8
def raR (k : Kt) (r : List Int) : List Int := if rar k 8 = -1 then r else [(khs k (rar k 8).toNat : Int)]
theorem c_X11_rare (d : Nat) {μ : jM} {k : Kt} {r : List Int} (hk : KI μ k) (hr : RI μ r) : ∃ μ', CL (d + 2) 175 [jR 0] μ = rI (raA k) μ' ∧ (∀ q, q ≠ 50 → q ≠ 51 → μ' q = μ q) ∧ RI μ' (raR k r) := by
  have h10 := hk.1.1
  have run := lp_0 (fun s : Nat => EV (d + 1) T_X11_rare 1 [some (jR 0), some (jI (rar k s)), some (jI (if rar k s = -1 then 11 else (pc (khs k (rar k s).toNat) : Int))), some (jI s), none] [] μ) 8 (fun s hs => by
    have hlt := khs_lt h10 s
    have hpc := pc_le (s := khs k s) (n := 10) hlt (by decide)
    have hb := rar_b k s
    have er : rar k (s + 1) = if 0 < pc (khs k s) ∧ (rar k s = -1 ∨ pc (khs k s) < pc (khs k (rar k s).toNat)) then (s : Int) else rar k s := rfl
    rw [e_X11_rare_1, if_pos (by omega), c_X1_holdersOf _ hk s hs, bI_r, c_bc _ _ _ (by omega), bI_r, w_s s (by omega), er]
    by_cases h1 : 0 < pc (khs k s)
    · rw [if_pos (show (0 : Int) < (pc (khs k s) : Nat) by omega)]
      by_cases h2 : rar k s = -1
      · rw [if_pos (show 0 < pc (khs k s) ∧ (rar k s = -1 ∨ pc (khs k s) < pc (khs k (rar k s).toNat)) from ⟨h1, Or.inl h2⟩), if_pos h2, if_pos (show (pc (khs k s) : Int) < 11 by omega), if_neg (show ¬ (s : Int) = -1 by omega), Int.toNat_natCast]
      · rw [if_neg h2]
        by_cases h3 : pc (khs k s) < pc (khs k (rar k s).toNat)
        · rw [if_pos (show 0 < pc (khs k s) ∧ (rar k s = -1 ∨ pc (khs k s) < pc (khs k (rar k s).toNat)) from ⟨h1, Or.inr h3⟩), if_pos (show (pc (khs k s) : Int) < (pc (khs k (rar k s).toNat) : Int) by omega), if_neg (show ¬ (s : Int) = -1 by omega), Int.toNat_natCast]
        · rw [if_neg (show ¬ (0 < pc (khs k s) ∧ (rar k s = -1 ∨ pc (khs k s) < pc (khs k (rar k s).toNat))) by omega), if_neg (show ¬ (pc (khs k s) : Int) < (pc (khs k (rar k s).toNat) : Int) by omega), if_neg h2]
    · rw [if_neg (show ¬ (0 : Int) < (pc (khs k s) : Nat) by omega), if_neg (show ¬ (0 < pc (khs k s) ∧ (rar k s = -1 ∨ pc (khs k s) < pc (khs k (rar k s).toNat))) from fun z => h1 z.1)])
  have head : CL (d + 2) 175 [jR 0] μ = EV (d + 1) T_X11_rare 1 [some (jR 0), some (jI (rar k 8)), some (jI (if rar k 8 = -1 then 11 else (pc (khs k (rar k 8).toNat) : Int))), some (jI (8 : Nat)), none] [] μ := by
    rw [e_X11_rare]
    exact run
  have hb := rar_b k 8
  rw [head, e_X11_rare_1, if_neg (by decide)]
  unfold raA raR
  by_cases h : rar k 8 = -1
  · rw [if_pos h, if_pos h, if_pos h]
    exact ⟨μ, rfl, fun _ _ _ => rfl, hr⟩
  · obtain ⟨s, hs⟩ := Int.eq_ofNat_of_zero_le (show 0 ≤ rar k 8 by omega)
    obtain ⟨μ1, e1, f1, r1⟩ := c_X7_clear d (μ := μ)
    have hk1 : KI μ1 k := KI_cg hk (fun q _ _ => f1 q (by omega) (by omega))
    obtain ⟨μ2, e2, f2, r2⟩ := c_X7_add d r1 (khs k s : Nat) (by decide)
    rw [if_neg h, if_neg h, if_neg h, hs, e1, bV_r, c_X1_holdersOf _ hk1 s (by omega), bI_r, e2, bV_r, Int.toNat_natCast]
    exact ⟨μ2, rfl, fun q a b => (f2 q a b).trans (f1 q a b), r2⟩
theorem khs_pos {k : Kt} (hk : Kok k) (h : 0 < kn k) : rar k 8 ≠ -1 := fun z => by
  have h4 := (rar_b k 8).2.2.2 z
  obtain ⟨h1, h2, -⟩ := hk.2.2.1 0 h
  have h0 : kst k 0 = 0 := by
    apply Nat.eq_of_testBit_eq
    intro s
    rw [Nat.zero_testBit]
    by_cases hs : s < 8
    · cases hb : (kst k 0).testBit s with
      | false => rfl
      | true =>
        exfalso
        have hne : khs k s ≠ 0 := fun q => by
          have h5 : (khs k s).testBit 0 = true := by
            show (bm (fun d => (kst k d).testBit s) (kn k)).testBit 0 = true
            rw [bm_tb, decide_eq_true h, hb]
            rfl
          rw [q, Nat.zero_testBit] at h5
          cases h5
        have h6 := pc_n0 (show khs k s < 1024 from khs_lt hk.1 s) hne
        have h7 := h4 s hs
        omega
    · exact tb_hi (n := 8) (by omega) (by omega)
  omega
theorem khs_0 {k : Kt} (h : kn k = 0) (s : Nat) : khs k s = 0 := by
  show bm _ (kn k) = 0
  rw [h]
  rfl
theorem rar_0 {k : Kt} (h : kn k = 0) : ∀ n, rar k n = -1
  | 0 => rfl
  | n + 1 => by
    unfold rar
    rw [khs_0 h, if_neg (fun z => absurd z.1 (by decide))]
    exact rar_0 h n
theorem c_X12_rare (d : Nat) {μ : jM} {k : Kt} {r : List Int} (hk : KR μ k) (hr : RR μ r) : ∃ μ', CL (d + 2) 279 [jR 69] μ = rI (raA k) μ' ∧ fR μ' μ ∧ RR μ' (raR k r) := by
  have hko := hk.1
  have h10 := hko.1
  have hk0 := th0_KR hk
  rw [e_X12_rare, hk0.2.1]
  unfold raA raR
  by_cases h : kn k = 0
  · have e1 := rar_0 h 8
    rw [if_pos (by omega), if_pos e1, if_pos e1]
    exact ⟨_, rfl, fR_0 μ, th0_RR hr⟩
  · have hne := khs_pos hko (by omega)
    let m : jM := jup μ 69 20 0
    have hkm : KR m k := hk0
    have inner : ∀ (s : Nat) (a u : Int), s < 8 → EV (d + 1) T_X12_rare 2 [some (jR 69), some (jI a), some (jI u), some (jI s), some (jI 0), some (jI 0)] [] m = EV (d + 1) T_X12_rare 2 [some (jR 69), some (jI a), some (jI u), some (jI s), some (jI (khs k s : Nat)), some (jI (kn k))] [] m := fun s a u hs => by
      refine lp_0 (fun x : Nat => EV (d + 1) T_X12_rare 2 [some (jR 69), some (jI a), some (jI u), some (jI s), some (jI (bm (fun d => (kst k d).testBit s) x : Nat)), some (jI x)] [] m) (kn k) (fun x hx => ?_)
      have h2x := p2_le (show x ≤ 10 by omega)
      have hbx : bm (fun d => (kst k d).testBit s) x < 2 ^ 10 := bm_lt' _ (by omega)
      have eb : bm (fun d => (kst k d).testBit s) (x + 1) = bm (fun d => (kst k d).testBit s) x ||| (if (kst k x).testBit s then 2 ^ x else 0) := rfl
      have or0 := or_nn (bm (fun d => (kst k d).testBit s) x) 0 (by omega) (by omega)
      have h256 := (hko.2.2.1 x hx).2.1
      rw [e_X12_rare_2, hkm.2.1, if_pos (by omega), gd_t (by omega), (hkm.2.2.2.1 x hx).1, c_X12_has _ _ _ s (by omega) (by omega), bI_r, w_s x (by omega), eb]
      cases (kst k x).testBit s with
      | false =>
        rw [z_f, if_neg (by decide), ← or0]
        rfl
      | true => rw [z_t, if_pos rfl, shl_1 x (by omega), or_nn _ _ (by omega) (by omega)]
    have run := lp_0 (fun s : Nat => EV (d + 1) T_X12_rare 1 [some (jR 69), some (jI (rar k s)), some (jI (if rar k s = -1 then 0 else (khs k (rar k s).toNat : Int))), some (jI s), none, none] [] m) 8 (fun s hs => by
      have hlt := khs_lt h10 s
      have hb := rar_b k s
      have er : rar k (s + 1) = if 0 < pc (khs k s) ∧ (rar k s = -1 ∨ pc (khs k s) < pc (khs k (rar k s).toNat)) then (s : Int) else rar k s := rfl
      rw [e_X12_rare_1, if_pos (by omega), inner s _ _ hs, e_X12_rare_2, hkm.2.1, if_neg (by omega), w_s s (by omega), er]
      by_cases h1 : khs k s = 0
      · have hz : pc (khs k s) = 0 := by
          rw [h1]
          rfl
        rw [if_pos (show (khs k s : Int) = 0 by omega), if_neg (show ¬ (0 < pc (khs k s) ∧ (rar k s = -1 ∨ pc (khs k s) < pc (khs k (rar k s).toNat))) by omega)]
      · have hp := pc_n0 (show khs k s < 1024 from hlt) h1
        rw [if_neg (show ¬ (khs k s : Int) = 0 by omega)]
        by_cases h2 : rar k s = -1
        · rw [if_pos h2, if_pos (show 0 < pc (khs k s) ∧ (rar k s = -1 ∨ pc (khs k s) < pc (khs k (rar k s).toNat)) from ⟨hp, Or.inl h2⟩), if_neg (show ¬ (s : Int) = -1 by omega), Int.toNat_natCast]
        · have hlt2 := khs_lt h10 (rar k s).toNat
          rw [if_neg h2, if_neg h2, c_bc _ _ _ (by omega), bI_r, c_bc _ _ _ (by omega), bI_r]
          by_cases h3 : pc (khs k s) < pc (khs k (rar k s).toNat)
          · rw [if_pos (show (pc (khs k s) : Int) < (pc (khs k (rar k s).toNat) : Int) by omega), if_pos (show 0 < pc (khs k s) ∧ (rar k s = -1 ∨ pc (khs k s) < pc (khs k (rar k s).toNat)) from ⟨hp, Or.inr h3⟩), if_neg (show ¬ (s : Int) = -1 by omega), Int.toNat_natCast]
          · rw [if_neg (show ¬ (pc (khs k s) : Int) < (pc (khs k (rar k s).toNat) : Int) by omega), if_neg (show ¬ (0 < pc (khs k s) ∧ (rar k s = -1 ∨ pc (khs k s) < pc (khs k (rar k s).toNat))) by omega), if_neg h2])
    obtain ⟨μ1, e1, f1, g1, r1⟩ := c_X12_tell d (RR_0 m) (khs k (rar k 8).toNat : Nat) (by decide)
    rw [if_neg (by omega), if_neg hne, if_neg hne]
    refine ⟨μ1, ?_, fR_t (fR_0 μ) (fR_t (fR_19 m 0) (fR_row f1 g1)), r1⟩
    refine Eq.trans run ?_
    show EV (d + 1) T_X12_rare 1 [some (jR 69), some (jI (rar k 8)), some (jI (if rar k 8 = -1 then 0 else (khs k (rar k 8).toNat : Int))), some (jI (8 : Nat)), none, none] [] m = _
    rw [e_X12_rare_1, if_neg (by decide), if_neg hne, e1, bV_r]
