/-! ## the class: the longest, from one to another -/
def GB (k : Kt) (w : Lw) (f l s m : Nat) : Bool := rr k w (A1 f) 0 10 s m && m == l
theorem alw_1 {f : Nat} (hf : f < 10) : alw ((2 ^ f : Nat) : Int) (fun x => x == f) := by
  refine Or.inl ⟨2 ^ f, Nat.lt_of_lt_of_le (Nat.pow_lt_pow_right (by decide) hf) (by decide), rfl, fun x _ => ?_⟩
  rw [Nat.testBit_two_pow]
  by_cases hx : f = x
  · subst hx
    simp
  · have : (x == f) = false := by simpa using Ne.symm hx
    show decide (f = x) = (x == f)
    rw [this]
    simp [hx]
/-- the law's own place -/
theorem c_X11_allow1 (d : Nat) {μ : jM} {k : Kt} {w : Lw} (ht : TL μ k w) (hb : TB μ 0 10 (fun _ _ => true)) (f : Nat) (hf : f < kn k) : ∃ μa μ', CL (d + 4) 109 [jR 29, jI 0, jI ((2 ^ f : Nat) : Int)] μ = rV μa ∧ CL (d + 4) 121 [jR 29] μa = rV μ' ∧ (∀ q, q < 29 ∨ 35 < q → μ' q = μ q) ∧ SP μ' k w (A1 f) 0 10 := by
  have h10 := ht.1.1
  obtain ⟨e1, t1⟩ := c_X8_allow (d + 3) hb 0 (by decide) _ _ (alw_1 (show f < 10 by omega))
  have eA : (fun j => if j = 0 then (fun x => x == f) else (fun (_ : Nat) => true)) = A1 f := by
    funext i x
    unfold A1
    by_cases hi : i = 0
    · rw [if_pos hi, if_pos hi]
    · rw [if_neg hi, if_neg hi]
  rw [eA] at t1
  obtain ⟨μ2, e2, f2, s2⟩ := c_reach d (TL_cg ht (fun q hq => jup_ne (by omega)) (fun j _ => by rw [jup_ne (by decide)])) t1 (Sok_0 k)
  exact ⟨_, μ2, e1, e2, fun q hq => (f2 q (by omega)).trans (jup_ne (by omega)), s2⟩
theorem gpl_GB {k : Kt} (hk : Kok k) {w : Lw} {f l : Nat} (hl : l < kn k) {C : Nat → Int} (s m : Nat) : gpl k w (A1 f) 0 10 (2 ^ l) 999 C 1 10 s m = GB k w f l s m := by
  unfold gpl GB
  cases hr : rr k w (A1 f) 0 10 s m with
  | false => rfl
  | true =>
    have hst := rr_in hk (Sok_0 k) hr
    have h10 := hk.1
    have hN := p2_le h10
    rw [Bool.true_and, Bool.true_and, Nat.testBit_two_pow]
    by_cases hm : m = l
    · subst hm
      have hs := hst.1.1
      have hs0 : s ≠ 0 := fun z => by
        rcases hst.1.2 with y | y
        · omega
        · rw [z, Nat.zero_testBit] at y
          cases y.2
      have h1 := pc_n0 (show s < 1024 by omega) hs0
      have h2 := pc_le hs (by omega)
      have e0 : pc 0 = 0 := rfl
      rw [gl_iff.mpr ⟨⟨m, by omega, hr, by rw [Nat.testBit_two_pow]; simp⟩, by omega, by omega, Or.inl rfl⟩]
      simp
    · have e1 : (m == l) = false := by simpa using hm
      rw [e1]
      simp [Ne.symm hm]
theorem c_X11_tellBetween (d : Nat) {μ : jM} {k : Kt} {w : Lw} {r : List Int} (hk : KI μ k) (hw : LI μ 16 w) (hr : RI μ r) (f l : Nat) (hf : f < kn k) (hl : l < kn k) (v : Int) (hv : v = 1 ∨ v = -1) : ∃ μ', (∀ q, q < 29 ∨ 51 < q → μ' q = μ q) ∧ ((CL (d + 6) 181 [jR 0, jI f, jI l, jI v] μ = rI (-2) μ' ∧ (∀ s m, GB k w f l s m = false) ∧ RI μ' r) ∨ ∃ m row, CL (d + 6) 181 [jR 0, jI f, jI l, jI v] μ = rI ((m : Nat) : Int) μ' ∧ BestP k w (A1 f) 0 10 (GB k w f l) (fun s => v * pc s) (v * (m : Nat)) m row ∧ RI μ' (ri row)) := by
  have hko := hk.1
  have h10 := hko.1
  have hN := p2_le h10
  have h2f := p2_le (show f ≤ 9 by omega)
  have h2l := p2_le (show l ≤ 9 by omega)
  obtain ⟨μ1, e1, f1, t1, b1⟩ := c_X11_beginAnew d hk hw
  obtain ⟨μa, μ2, e2a, e2, f2, s2⟩ := c_X11_allow1 (d + 1) t1 b1 f hf
  have f12 : ∀ q, q < 29 ∨ 35 < q → μ2 q = μ q := fun q hq => (f2 q hq).trans (f1 q hq)
  obtain ⟨μ3, e3, f3, p3⟩ := c_X5_begin (d + 3) μ2 k (fun _ _ => v)
  have k3 : KI μ3 k := KI_cg hk (fun q _ _ => (f3 q (by omega) (by omega)).trans (f12 q (by omega)))
  obtain ⟨μ4, e4, f4, p4⟩ := c_X5_weighAll (d + 3) k3 p3 (by decide) v (fun _ => rfl)
  obtain ⟨μ5, e5, f5, p5⟩ := c_X5_endWith (d + 4) p4 (2 ^ l) (by omega)
  have f35 : ∀ q, q < 36 ∨ 45 < q → μ5 q = μ2 q := fun q hq => (f5 q (by omega)).trans ((f4 q (by omega)).trans (f3 q (by omega) (by omega)))
  have s5 : SP μ5 k w (A1 f) 0 10 := SP_cg s2 (fun q _ _ => f35 q (by omega))
  have hval : ∀ s m, rr k w (A1 f) 0 10 s m = true → wo (fun _ _ => v) (nd s 0) 1 = v * (pc s : Int) := fun s m hs => by
    have := wo_c hko (Sok_0 k) hs v hv
    rw [this, show pc 0 = 0 from rfl]
    simp
  obtain ⟨μ6, g, e6, f6, g6, r6⟩ := c_seek d s5 p5 (fun _ _ _ _ => by rcases hv with rfl | rfl <;> decide) (fun _ _ => by decide) 1 10 (fun s m hs => by
    have hs1 := (Bool.and_eq_true_iff.mp hs).1
    have := pc_le (rr_st hko (Sok_0 k) hs1).1 (by omega)
    rw [hval s m hs1]
    rcases hv with rfl | rfl <;> omega) (fun s t g hs ht h1 h2 => by
    obtain ⟨⟨m, -, hm, -⟩, -⟩ := gl_iff.mp hs
    obtain ⟨⟨m', -, hm', -⟩, -⟩ := gl_iff.mp ht
    rw [hval s m hm] at h1
    rw [hval t m' hm'] at h2
    rcases hv with rfl | rfl <;> omega)
  have f60 : ∀ q, q < 29 ∨ 45 < q → μ6 q = μ q := fun q hq => (f6 q (by omega) (by omega)).trans ((f35 q (by omega)).trans (f12 q (by omega)))
  have start : CL (d + 6) 181 [jR 0, jI f, jI l, jI v] μ = (if g = -1000000 then rI (-2) μ6 else bV (CL (d + 5) 104 [jR 50] μ6) fun μ10 => bV (CL (d + 5) 89 [jR 36, jR 29, jR 50] μ10) fun μ11 => bI (CL (d + 5) 102 [jR 50] μ11) fun x12 μ12 => rI x12 μ12) := by
    rw [e_X11_tellBetween, c_X1_hasDish _ hk, if_pos (by omega), bI_r, if_neg (by decide), c_X1_hasDish _ hk, if_pos (by omega), bI_r, if_neg (by decide), e1, bV_r, shl_1 _ (by omega), e2a, bV_r, e2, bV_r, e3, bV_r, e4, bV_r, shl_1 _ (by omega), e5, bV_r, e6, bI_r]
  rcases r6 with ⟨hg, hno⟩ | ⟨hg, m, hm, m7, bp, hcr, hG, hmk⟩
  · refine ⟨μ6, fun q hq => f60 q (by omega), Or.inl ⟨?_, fun s m => by rw [← gpl_GB hko hl (C := fun _ => 0)]; exact hno s m, RI_cg hr (f60 50 (by decide)) (f60 51 (by decide))⟩⟩
    rw [start, if_pos hg]
  · have bp2 := BestP_cg (Gp' := GB k w f l) (v' := fun s => v * (pc s : Int)) (fun s m => gpl_GB hko hl s m) (fun s m hs => hval s m (Bool.and_eq_true_iff.mp hs).1) bp
    have egm : g = v * (m : Int) := by
      obtain ⟨⟨s, l', h1, h2⟩, -, h4, -⟩ := bp2
      have h4 := h4 s l' h1 h2
      have h2 : v * (pc s : Int) = g := h2
      rw [← h2, h4, show pc 0 = 0 from rfl, Nat.zero_add]
    obtain ⟨μ7, e7, f7, r7⟩ := c_X7_clear (d + 4) (μ := μ6)
    have s7 : SP μ7 k w (A1 f) 0 10 := SP_cg s5 (fun q _ _ => (f7 q (by omega) (by omega)).trans (f6 q (by omega) (by omega)))
    obtain ⟨μ8, e8, f8, r8⟩ := c_X5_tell (d + 1) s7 (by rw [f7 36 (by decide) (by decide)]; exact m7) (fun s hs => by rw [f7 44 (by decide) (by decide)]; exact hmk s hs) hcr r7 (by simp; omega)
    refine ⟨μ8, fun q hq => (f8 q (by omega) (by omega)).trans ((f7 q (by omega) (by omega)).trans (f60 q (by omega))), Or.inr ⟨m, _, ?_, by rw [egm] at bp2; exact bp2, ?_⟩⟩
    · rw [start, if_neg (by omega), e7, bV_r, e8, bV_r, c_X7_size _ r8, bI_r]
      rw [List.nil_append, ri_len, pth_len]
    · rw [List.nil_append, egm] at r8
      exact r8
