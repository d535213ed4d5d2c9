/-! ## rounds -/
def GR (k : Kt) (w : Lw) (f s x : Nat) : Bool := rr k w (A1 f) 0 10 s x && ((ksh k (lsh w) f).testBit x && decide (3 ≤ pc s))
/-- the longest round, of its first DISHES the first -/
def RoundP (k : Kt) (w : Lw) (M f : Nat) (row : List Nat) : Prop := f < kn k ∧ (∃ s x, GR k w f s x = true ∧ pc s = M) ∧ (∀ f' s x, f' < kn k → GR k w f' s x = true → pc s ≤ M) ∧ (∀ f' s x, f' < f → GR k w f' s x = true → pc s < M) ∧ row = pth (SS k w (A1 f) 0) (fun s x => GR k w f s x && decide (pc s = M)) M 0 10
theorem RoundP_u {k : Kt} {w : Lw} {M M' f f' : Nat} {row row' : List Nat} (h : RoundP k w M f row) (h' : RoundP k w M' f' row') : M = M' ∧ row = row' := by
  obtain ⟨h1, ⟨s, x, h2, h3⟩, h4, h5, h6⟩ := h
  obtain ⟨h1', ⟨s', x', h2', h3'⟩, h4', h5', h6'⟩ := h'
  have e1 := h4 f' s' x' h1' h2'
  have e2 := h4' f s x h1 h2
  have eM : M = M' := by omega
  subst eM
  have ef : f = f' := by
    by_cases z : f < f'
    · have := h5' f s x z h2
      omega
    · by_cases z2 : f' < f
      · have := h5 f' s' x' z2 h2'
        omega
      · omega
  subst ef
  exact ⟨rfl, h6.trans h6'.symm⟩
def fA (A : Ap) : Prop := ∀ i x, i ≠ 0 → A i x = true
theorem c_X11_goRound (d : Nat) {μ : jM} {k : Kt} {w : Lw} {A : Ap} {n : Nat} {W : Nat → Nat → Int} {L : Nat} {P : Int} {C : Nat → Int} (hk : KI μ k) (hw : LI μ 16 w) (ht : TL μ k w) (hb : TB μ 0 10 A) (hA : fA A) (hp : PI μ k n W L P C) (f : Nat) (hf : f < kn k) : ∃ μ', CL (d + 5) 182 [jR 0, jI f] μ = rV μ' ∧ (∀ q, q < 29 ∨ 36 < q → μ' q = μ q) ∧ SP μ' k w (A1 f) 0 10 ∧ PI μ' k n W (ksh k (lsh w) f) P C := by
  have h10 := hk.1.1
  have hws := hw.2.1.1
  obtain ⟨e1, t1⟩ := c_X8_allow (d + 3) hb 0 (by decide) _ _ (alw_1 (show f < 10 by omega))
  have eA : (fun j => if j = 0 then (fun x => x == f) else A j) = A1 f := by
    funext i x
    unfold A1
    by_cases hi : i = 0
    · rw [if_pos hi, if_pos hi]
    · rw [if_neg hi, if_neg hi]
      exact hA i x hi
  rw [eA] at t1
  have e1 : CL (d + 4) 109 [jR 29, jI 0, jI ((2 ^ f : Nat) : Int)] μ = rV (jup μ 33 0 ((2 ^ f : Nat) : Int)) := e1
  obtain ⟨μ2, e2, f2, s2⟩ := c_reach (μ := jup μ 33 0 ((2 ^ f : Nat) : Int)) d (TL_cg ht (fun q hq => jup_ne (by omega)) (fun j _ => by rw [jup_ne (by decide)])) t1 (Sok_0 k)
  have f12 : ∀ q, q ≠ 31 → q ≠ 33 → μ2 q = μ q := fun q h1 h2 => (f2 q h1).trans (jup_ne h2)
  have k2 : KI μ2 k := KI_cg hk (fun q _ _ => f12 q (by omega) (by omega))
  have w2 : LI μ2 16 w := LI_cg hw (f12 16 (by decide) (by decide)) (f12 17 (by decide) (by decide))
  have p2 : PI μ2 k n W L P C := PI_cg hp (fun q _ _ _ _ => f12 q (by omega) (by omega)) (fun j _ => by rw [f12 36 (by decide) (by decide)])
  have hsh : ksh k (lsh w) f < 2048 := bm_lt' _ (show kn k ≤ 11 by omega)
  obtain ⟨μ3, e3, f3, p3⟩ := c_X5_endWith (d + 3) p2 (ksh k (lsh w) f) hsh
  refine ⟨μ3, ?_, fun q hq => (f3 q (by omega)).trans (f12 q (by omega) (by omega)), SP_cg s2 (fun q _ _ => f3 q (by omega)), p3⟩
  rw [e_X11_goRound, shl_1 _ (by omega), e1, bV_r, e2, bV_r, c_X2_share _ w2, bI_r, c_X1_sharing _ k2 f _ hf (by omega), bI_r, e3, bV_r]
theorem gl_GR {k : Kt} (hk : Kok k) {w : Lw} {f : Nat} {C : Nat → Int} (s : Nat) : gl k w (A1 f) 0 10 (ksh k (lsh w) f) 999 C 3 10 s = true ↔ ∃ x, GR k w f s x = true := by
  rw [gl_iff]
  have h10 := hk.1
  have e0 : pc 0 = 0 := rfl
  constructor
  · rintro ⟨⟨x, h1, h2, h3⟩, h4, h5, -⟩
    refine ⟨x, ?_⟩
    unfold GR
    rw [h2, h3]
    simp
    omega
  · rintro ⟨x, hx⟩
    have h1 := Bool.and_eq_true_iff.mp hx
    have h2 := Bool.and_eq_true_iff.mp h1.2
    rw [decide_eq_true_eq] at h2
    have hst := rr_st hk (Sok_0 k) h1.1
    have h3 := pc_le hst.1 (by omega)
    exact ⟨⟨x, by omega, h1.1, h2.1⟩, by omega, by omega, Or.inl rfl⟩
theorem c_X11_round (d : Nat) {μ : jM} {k : Kt} {w : Lw} {r : List Int} (hk : KI μ k) (hw : LI μ 16 w) (hr : RI μ r) : ∃ μ', (∀ q, q < 29 ∨ 51 < q → μ' q = μ q) ∧ ((CL (d + 6) 176 [jR 0] μ = rI (-2) μ' ∧ (∀ f s x, f < kn k → GR k w f s x = false) ∧ RI μ' r) ∨ ∃ M f row, CL (d + 6) 176 [jR 0] μ = rI ((M : Nat) : Int) μ' ∧ RoundP k w M f row ∧ RI μ' (ri row)) := by
  have hko := hk.1
  have h10 := hko.1
  have hN := p2_le h10
  have hnn : ∀ s m f, rr k w (A1 f) 0 10 s m = true → wo (fun _ _ => 1) (nd s 0) 1 = (pc s : Int) := fun s m f hs => by
    have := wo_c hko (Sok_0 k) hs 1 (Or.inl rfl)
    rw [this, show pc 0 = 0 from rfl]
    simp
  obtain ⟨μ1, e1, f1, t1, b1⟩ := c_X11_beginAnew d hk hw
  obtain ⟨μ2, e2, f2, p2⟩ := c_X5_begin (d + 3) μ1 k (fun _ _ => 1)
  have f12 : ∀ q, q < 29 → μ2 q = μ q := fun q hq => (f2 q (by omega) (by omega)).trans (f1 q (by omega))
  have k2 : KI μ2 k := KI_cg hk (fun q _ _ => f12 q (by omega))
  obtain ⟨μ3, e3, f3, p3⟩ := c_X5_weighAll (d + 3) k2 p2 (by decide) 1 (fun _ => rfl)
  have f30 : ∀ q, q < 29 ∨ 45 < q → μ3 q = μ q := fun q hq => (f3 q (by omega)).trans ((f2 q (by omega) (by omega)).trans (f1 q (by omega)))
  have t3 : TL μ3 k w := TL_cg t1 (fun q hq => (f3 q (by omega)).trans (f2 q (by omega) (by omega))) (fun j _ => by rw [f3 29 (by omega), f2 29 (by decide) (by decide)])
  have b3 : TB μ3 0 10 (fun _ _ => true) := TB_cg b1 (by rw [f3 29 (by omega), f2 29 (by decide) (by decide)]) (by rw [f3 29 (by omega), f2 29 (by decide) (by decide)]) (by rw [f3 33 (by omega), f2 33 (by decide) (by decide)])
  -- what stands while it looks
  let St : jM → Prop := fun μ1 => (∀ q, q < 29 ∨ 45 < q → μ1 q = μ q) ∧ TL μ1 k w ∧ (∃ A, TB μ1 0 10 A ∧ fA A) ∧ ∃ L, PI μ1 k 1 (fun _ _ => 1) L 999 (fun _ => 0)
  have pics : ∀ μ1, St μ1 → KI μ1 k ∧ LI μ1 16 w := fun μ1 h => ⟨KI_cg hk (fun q _ _ => h.1 q (by omega)), LI_cg hw (h.1 16 (by omega)) (h.1 17 (by omega))⟩
  have go : ∀ μ1, St μ1 → ∀ f, f < kn k → ∃ μ2, CL (d + 5) 182 [jR 0, jI f] μ1 = rV μ2 ∧ St μ2 ∧ SP μ2 k w (A1 f) 0 10 ∧ PI μ2 k 1 (fun _ _ => 1) (ksh k (lsh w) f) 999 (fun _ => 0) := fun μ1 h f hf => by
    obtain ⟨hk1, hw1⟩ := pics μ1 h
    obtain ⟨g1, g2, ⟨A, g3, g4⟩, L, g5⟩ := h
    obtain ⟨μ2, e2, f2, s2, p2⟩ := c_X11_goRound d hk1 hw1 g2 g3 g4 g5 f hf
    exact ⟨μ2, e2, ⟨fun q hq => (f2 q (by omega)).trans (g1 q hq), s2.1, ⟨A1 f, s2.2.1, fun i x hi => by unfold A1; rw [if_neg hi]⟩, _, p2⟩, s2, p2⟩
  obtain ⟨⟨μ4, a, b⟩, e4, i4⟩ := lp_i (fun (i : Nat) (q : jM × Int × Int) => EV (d + 5) T_X11_round 1 [some (jR 0), some (jI q.2.1), some (jI q.2.2), some (jI i), none] [] q.1) (fun i q => St q.1 ∧ ((q.2.1 = -1000000 ∧ q.2.2 = -1 ∧ ∀ f s x, f < i → GR k w f s x = false) ∨ ∃ M f : Nat, q.2.1 = (M : Int) ∧ q.2.2 = (f : Int) ∧ f < i ∧ (∃ s x, GR k w f s x = true ∧ pc s = M) ∧ (∀ f' s x, f' < i → GR k w f' s x = true → pc s ≤ M) ∧ (∀ f' s x, f' < f → GR k w f' s x = true → pc s < M))) (kn k) (fun i q hi hI => by
    obtain ⟨μ4, a, b⟩ := q
    obtain ⟨hst, hv⟩ := hI
    have hk1 := (pics μ4 hst).1
    obtain ⟨μ5, e5, st5, s5, p5⟩ := go μ4 hst i hi
    let g := mxo (gl k w (A1 i) 0 10 (ksh k (lsh w) i) 999 (fun _ => 0) 3 10) (fun s => wo (fun _ _ => 1) (nd s 0) 1) (2 ^ kn k)
    have eg := c_X5_greatest (d + 1) s5 p5 (fun _ _ _ _ => by decide) (fun _ _ => by decide) 3 10
    have head : EV (d + 5) T_X11_round 1 [some (jR 0), some (jI a), some (jI b), some (jI i), none] [] μ4 = if a < g then EV (d + 5) T_X11_round 1 [some (jR 0), some (jI g), some (jI i), some (jI (i + 1 : Nat)), none] [] μ5 else EV (d + 5) T_X11_round 1 [some (jR 0), some (jI a), some (jI b), some (jI (i + 1 : Nat)), none] [] μ5 := by
      rw [e_X11_round_1, e_X1_dishes, hk1.2.1, bI_r, if_pos (by omega), e5, bV_r, eg, bI_r, w_s i (by omega)]
    have hgv : ∀ s x, GR k w i s x = true → (pc s : Int) ≤ g ∧ 3 ≤ pc s := fun s x hs => by
      have h1 := Bool.and_eq_true_iff.mp hs
      have h2 := (Bool.and_eq_true_iff.mp h1.2).2
      have h3 := mxo_ge (v := fun s => wo (fun _ _ => 1) (nd s 0) 1) (rr_st hko (Sok_0 k) h1.1).1 ((gl_GR hko (C := fun _ => 0) s).mpr ⟨x, hs⟩)
      have h4 : wo (fun _ _ => 1) (nd s 0) 1 ≤ g := h3
      rw [hnn s x i h1.1] at h4
      exact ⟨h4, by simpa using h2⟩
    have hgx : g ≠ -1000000 → ∃ s x, GR k w i s x = true ∧ (pc s : Int) = g := fun hg => by
      obtain ⟨s, h1, h2, h3⟩ := mxo_at hg
      obtain ⟨x, hx⟩ := (gl_GR hko s).mp h2
      refine ⟨s, x, hx, ?_⟩
      have h4 : wo (fun _ _ => 1) (nd s 0) 1 = g := h3
      rw [hnn s x i (Bool.and_eq_true_iff.mp hx).1] at h4
      exact h4
    show ∃ s', EV (d + 5) T_X11_round 1 [some (jR 0), some (jI a), some (jI b), some (jI i), none] [] μ4 = _ ∧ _
    rw [head]
    by_cases hz : g = -1000000
    · have hno : ∀ s x, GR k w i s x = false := fun s x => by
        cases hs : GR k w i s x with
        | false => rfl
        | true =>
          have := hgv s x hs
          omega
      have hle : ¬ a < g := by
        rcases hv with ⟨h1, -, -⟩ | ⟨M, f, h1, -⟩
        · have h1 : a = -1000000 := h1
          omega
        · have h1 : a = (M : Int) := h1
          omega
      refine ⟨(μ5, a, b), if_neg hle, st5, ?_⟩
      rcases hv with ⟨h1, h2, h3⟩ | ⟨M, f, h1, h2, h3, h4, h5, h6⟩
      · refine Or.inl ⟨h1, h2, fun f s x hf => ?_⟩
        by_cases hfi : f = i
        · rw [hfi]
          exact hno s x
        · exact h3 f s x (by omega)
      · refine Or.inr ⟨M, f, h1, h2, by omega, h4, fun f' s x hf hs => ?_, h6⟩
        by_cases hfi : f' = i
        · rw [hfi, hno] at hs
          cases hs
        · exact h5 f' s x (by omega) hs
    · obtain ⟨s1, x1, h11, h12⟩ := hgx hz
      by_cases hlt : a < g
      · refine ⟨(μ5, g, ((i : Nat) : Int)), if_pos hlt, st5, Or.inr ⟨pc s1, i, h12.symm, rfl, Nat.lt_succ_self i, ⟨s1, x1, h11, rfl⟩, fun f' s x hf hs => ?_, fun f' s x hf hs => ?_⟩⟩
        · by_cases hfi : f' = i
          · rw [hfi] at hs
            have := (hgv s x hs).1
            omega
          · rcases hv with ⟨h1, h2, h3⟩ | ⟨M, f, h1, h2, h3, h4, h5, h6⟩
            · rw [h3 f' s x (by omega)] at hs
              cases hs
            · have := h5 f' s x (by omega) hs
              have h1 : a = (M : Int) := h1
              omega
        · rcases hv with ⟨h1, h2, h3⟩ | ⟨M, f, h1, h2, h3, h4, h5, h6⟩
          · rw [h3 f' s x (by omega)] at hs
            cases hs
          · have := h5 f' s x (by omega) hs
            have h1 : a = (M : Int) := h1
            omega
      · refine ⟨(μ5, a, b), if_neg hlt, st5, ?_⟩
        rcases hv with ⟨h1, h2, h3⟩ | ⟨M, f, h1, h2, h3, h4, h5, h6⟩
        · have h1 : a = -1000000 := h1
          have := (hgv s1 x1 h11)
          omega
        · refine Or.inr ⟨M, f, h1, h2, by omega, h4, fun f' s x hf hs => ?_, h6⟩
          by_cases hfi : f' = i
          · rw [hfi] at hs
            have := (hgv s x hs).1
            have h1 : a = (M : Int) := h1
            omega
          · exact h5 f' s x (by omega) hs) (μ3, -1000000, -1) ⟨⟨f30, t3, ⟨_, b3, fun _ _ _ => rfl⟩, _, p3⟩, Or.inl ⟨rfl, rfl, fun f s x hf => absurd hf (Nat.not_lt_zero f)⟩⟩
  obtain ⟨st4, hv⟩ := i4
  have hk4 := (pics μ4 st4).1
  have begin' : CL (d + 6) 176 [jR 0] μ = EV (d + 5) T_X11_round 1 [some (jR 0), some (jI a), some (jI b), some (jI (kn k : Nat)), none] [] μ4 := by
    rw [e_X11_round, e1, bV_r, e2, bV_r, e3, bV_r]
    exact e4
  rcases hv with ⟨h1, h2, h3⟩ | ⟨M, f, h1, h2, h3, h4, h5, h6⟩
  · have h2 : b = -1 := h2
    refine ⟨μ4, fun q hq => st4.1 q (by omega), Or.inl ⟨?_, fun f s x hf => h3 f s x hf, RI_cg hr (st4.1 50 (by omega)) (st4.1 51 (by omega))⟩⟩
    rw [begin', e_X11_round_1, e_X1_dishes, hk4.2.1, bI_r, if_neg (by omega), if_pos h2]
  · have h1 : a = (M : Int) := h1
    have h2 : b = (f : Int) := h2
    subst h1
    subst h2
    obtain ⟨sM, xM, hM1, hM2⟩ := h4
    have hM3 := (Bool.and_eq_true_iff.mp (Bool.and_eq_true_iff.mp hM1).2).2
    rw [decide_eq_true_eq] at hM3
    obtain ⟨μ5, e5, st5, s5, p5⟩ := go μ4 st4 f h3
    have e0 : pc 0 = 0 := rfl
    have hgpl : ∀ s x, gpl k w (A1 f) 0 10 (ksh k (lsh w) f) 999 (fun _ => 0) M M s x = (GR k w f s x && decide (pc s = M)) := fun s x => by
      unfold gpl GR
      cases hr : rr k w (A1 f) 0 10 s x with
      | false => rfl
      | true =>
        rw [Bool.true_and, Bool.true_and]
        cases hsh : (ksh k (lsh w) f).testBit x with
        | false => rfl
        | true =>
          rw [Bool.true_and, Bool.true_and]
          have hx := (rr_st hko (Sok_0 k) hr).2.1
          by_cases hm : pc s = M
          · rw [gl_iff.mpr ⟨⟨x, by omega, hr, hsh⟩, by omega, by omega, Or.inl rfl⟩, decide_eq_true (show 3 ≤ pc s by omega), decide_eq_true hm]
            rfl
          · rw [decide_eq_false hm, Bool.and_false]
            cases hg : gl k w (A1 f) 0 10 (ksh k (lsh w) f) 999 (fun _ => 0) M M s with
            | false => rfl
            | true =>
              have := (gl_iff.mp hg).2
              omega
    obtain ⟨μ6, g, e6, f6, g6, r6⟩ := c_seek d s5 p5 (fun _ _ _ _ => by decide) (fun _ _ => by decide) M M (fun s x hs => by
      have := (Bool.and_eq_true_iff.mp hs).1
      rw [hnn s x f this]
      omega) (fun s t g hs ht _ _ => by
      have := (gl_iff.mp hs).2
      have := (gl_iff.mp ht).2
      omega)
    rcases r6 with ⟨-, hno⟩ | ⟨hg, m, hm, m7, bp, hcr, hG, hmk⟩
    · have := hno sM xM
      rw [hgpl, hM1, decide_eq_true hM2] at this
      cases this
    · have em : m = M := by
        obtain ⟨⟨s, x, z1, z2⟩, -, z4, -⟩ := bp
        have := z4 s x z1 z2
        rw [hgpl] at z1
        have := (Bool.and_eq_true_iff.mp z1).2
        rw [decide_eq_true_eq] at this
        omega
      subst em
      have egg : g = (m : Int) := by
        obtain ⟨⟨s, x, z1, z2⟩, -, z4, -⟩ := bp
        have z5 := z4 s x z1 z2
        have z6 := hnn s x f (Bool.and_eq_true_iff.mp z1).1
        have z2 : wo (fun _ _ => 1) (nd s 0) 1 = g := z2
        omega
      obtain ⟨μ7, e7, f7, r7⟩ := c_X7_clear (d + 4) (μ := μ6)
      have s7 : SP μ7 k w (A1 f) 0 10 := SP_cg s5 (fun q _ _ => (f7 q (by omega) (by omega)).trans (f6 q (by omega) (by omega)))
      obtain ⟨μ8, e8, f8, r8⟩ := c_X5_tell (d + 1) s7 (by rw [f7 36 (by decide) (by decide)]; exact m7) (fun s hs => by rw [f7 44 (by decide) (by decide)]; exact hmk s hs) hcr r7 (by simp; omega)
      refine ⟨μ8, fun q hq => (f8 q (by omega) (by omega)).trans ((f7 q (by omega) (by omega)).trans ((f6 q (by omega) (by omega)).trans (st5.1 q (by omega)))), Or.inr ⟨m, f, _, ?_, ⟨h3, ⟨sM, xM, hM1, hM2⟩, fun f' s x hf hs => h5 f' s x hf hs, h6, rfl⟩, ?_⟩⟩
      · rw [begin', e_X11_round_1, e_X1_dishes, hk4.2.1, bI_r, if_neg (by omega), if_neg (by omega), e5, bV_r, e6, bI_r, e7, bV_r, e8, bV_r]
      · rw [List.nil_append] at r8
        have e9 : (fun s x => gpl k w (A1 f) 0 10 (ksh k (lsh w) f) 999 (fun _ => 0) (m : Nat) (m : Nat) s x && decide (wo (fun _ _ => 1) (nd s 0) 1 = g)) = fun s x => GR k w f s x && decide (pc s = m) := by
          funext s x
          rw [hgpl]
          cases hq : (GR k w f s x && decide (pc s = m)) with
          | false => rfl
          | true =>
            have z := Bool.and_eq_true_iff.mp hq
            rw [decide_eq_true_eq] at z
            rw [hnn s x f (Bool.and_eq_true_iff.mp z.1).1, decide_eq_true (by omega)]
            rfl
        rw [e9] at r8
        exact r8
