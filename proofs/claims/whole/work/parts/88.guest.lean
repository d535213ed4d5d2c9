/-! ## what is told of a GUEST: both sides; none: the class throws, the reference says so in its own way -/
def guB (k : Kt) (g w : Int) : Prop := (0 ≤ g ∧ g < kg k) ∧ 0 ≤ w ∧ w ≤ 1
def guA (k : Kt) (g w : Int) : Nat := if w = 0 then klo k g.toNat else kba k g.toNat
theorem c_X11_guest (d : Nat) {μ : jM} {k : Kt} (hk : KI μ k) (g w : Int) : (guB k g w → CL (d + 3) 150 [jR 0, jI g, jI w] μ = rI (guA k g w : Nat) μ) ∧ (¬ guB k g w → CL (d + 3) 150 [jR 0, jI g, jI w] μ = rT μ) := by
  rw [e_X11_guest, c_X1_hasGuest _ hk, bI_r]
  unfold guB guA
  by_cases hg : 0 ≤ g ∧ g < kg k
  · obtain ⟨x, rfl⟩ := Int.eq_ofNat_of_zero_le hg.1
    rw [if_pos hg, if_neg (by decide), Int.toNat_natCast]
    refine ⟨fun h => ?_, fun h => ?_⟩
    · rw [if_neg (show ¬ w < 0 by omega), if_neg (show ¬ (1 : Int) < w by omega)]
      by_cases hw : w = 0
      · rw [if_pos hw, c_X1_lovedBy _ hk x (by omega), bI_r, if_pos hw]
      · rw [if_neg hw, c_X1_barredBy _ hk x (by omega), bI_r, if_neg hw]
    · by_cases hw : w < 0
      · rw [if_pos hw]
      · rw [if_neg hw, if_pos (show (1 : Int) < w by omega)]
  · rw [if_neg hg, if_pos rfl]
    exact ⟨fun h => absurd h.1 hg, fun _ => rfl⟩
theorem c_X12_guest (d : Nat) {μ : jM} {k : Kt} (hk : KR μ k) (g w : Int) : (guB k g w → CL (d + 3) 233 [jR 69, jI g, jI w] μ = rI (guA k g w : Nat) (jup μ 69 20 0)) ∧ (¬ guB k g w → CL (d + 3) 233 [jR 69, jI g, jI w] μ = rI 0 (jup μ 69 20 1)) := by
  have hk0 := th0_KR hk
  have h6 := hk.1.2.1
  rw [e_X12_guest, c_X12_isGuest _ hk0, bI_r]
  unfold guB guA
  by_cases hg : 0 ≤ g ∧ g < kg k
  · obtain ⟨x, rfl⟩ := Int.eq_ofNat_of_zero_le hg.1
    rw [if_pos hg, if_neg (by decide), Int.toNat_natCast, c_X12_in, bI_r]
    refine ⟨fun h => ?_, fun h => ?_⟩
    · obtain ⟨v1, v2⟩ := hk0.2.2.2.2 x (by omega)
      rw [if_pos (show 0 ≤ w ∧ w ≤ 1 from h.2), if_neg (by decide), gd_t (by omega), gd_t (by omega), v1, v2]
      by_cases hw : w = 0
      · rw [if_pos hw, if_pos hw]
      · rw [if_neg hw, if_neg hw]
    · rw [if_neg (show ¬ (0 ≤ w ∧ w ≤ 1) from fun z => h ⟨hg, z⟩), if_pos rfl, c_X12_lost, bI_r, jup_jup]
  · rw [if_neg hg, if_pos rfl, c_X12_lost, bI_r, jup_jup]
    exact ⟨fun h => absurd h.1 hg, fun _ => rfl⟩
