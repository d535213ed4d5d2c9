/-! ## mending: the reference -/
theorem mnI_hi {F : Int} {P : Nat → Bool} {f : Nat → Int} {n : Nat} : ∀ {M : Nat}, n ≤ M → (∀ i, n ≤ i → i < M → P i = false) → mnI F P f M = mnI F P f n
  | 0, h, _ => by
    have : n = 0 := by omega
    rw [this]
  | M + 1, h, hp => by
    by_cases e : n = M + 1
    · rw [e]
    · show (if P M then min (mnI F P f M) (f M) else mnI F P f M) = _
      rw [hp M (by omega) (by omega), if_neg (by decide)]
      exact mnI_hi (by omega) (fun i h1 h2 => hp i h1 (by omega))
theorem mnI_le {F : Int} {P : Nat → Bool} {f : Nat → Int} : ∀ n, mnI F P f n ≤ F
  | 0 => Int.le_refl _
  | n + 1 => by
    have := mnI_le (F := F) (P := P) (f := f) n
    unfold mnI
    split <;> omega
abbrev mF : Int := 1000000
theorem x_dch {k : Kt} (h10 : kn k ≤ 10) {m : List Nat} (hok : Mok (kn k) m) (s x : Nat) (hx : x < 10) {α : Type} (a b : α) : (if (x : Int) = u99 (m.getD (pc s) 10) then a else b) = if m.getD (pc s) 10 = x then a else b := by
  have h := u99_x h10 (Mok_at hok (pc s)) hx
  by_cases hz : m.getD (pc s) 10 = x
  · rw [if_pos hz, if_pos (h.mpr hz).symm]
  · rw [if_neg hz, if_neg (fun q => hz (h.mp q.symm))]
theorem c_X12_mend_1 (d : Nat) {μ : jM} {k : Kt} {w : Lw} (hk : KR μ k) (hw : LR μ w) (i : Nat) (hi : i < 3) {m : List Nat} (hm : MRi μ i m) (hok : Mok (kn k) m) (a2 a3 : Int) : ∃ μ', EV (d + 5) T_X12_mend 1 [some (jR 69), some (jI i), some (jI a2), some (jI a3), some (jI (m.length : Nat)), some (jI (2 ^ kn k - 1 : Nat)), none, none, none] [] μ = EV (d + 5) T_X12_mend 1 [some (jR 69), some (jI i), some (jI a2), some (jI a3), some (jI (m.length : Nat)), some (jI (-1)), none, none, none] [] μ' ∧ (∀ q, q ≠ 92 → μ' q = μ q) ∧ ∀ s l, Stt k s l → pc s ≤ m.length → μ' 92 ((11 * s + l : Nat) : Int) = mcI mF k w m (m.length - pc s) s l := by
  have hko := hk.1
  have h10 := hko.1
  have hN := p2_le h10
  have hl := hm.1
  let B : Nat → Nat → Int := fun s l => mcI mF k w m (m.length - pc s) s l
  have hBb : ∀ s l, 0 ≤ B s l ∧ B s l ≤ 1000000 := fun s l => mcI_b (F := mF) (by decide) k w m _ s l
  have pics : ∀ μ1 : jM, (∀ q, q ≠ 92 → μ1 q = μ q) → KR μ1 k ∧ LR μ1 w ∧ MRi μ1 i m := fun μ1 f => ⟨KR_cg hk (fun q _ _ => f q (by omega)) (by rw [f 69 (by decide)]) (by rw [f 69 (by decide)]), LR_cg hw (f 70 (by decide)) (by rw [f 69 (by decide)]) (by rw [f 69 (by decide)]) (by rw [f 69 (by decide)]), MRi_cg hm (f 79 (by decide)) (f 78 (by decide))⟩
  let J : Nat → Nat → jM → Prop := fun a j μ1 => (∀ q, q ≠ 92 → μ1 q = μ q) ∧ ∀ s l, Stt k s l → pc s ≤ m.length → (a < s ∨ s = a ∧ ∃ j', j' < j ∧ l = lx j') → μ1 92 ((11 * s + l : Nat) : Int) = B s l
  have l3 : ∀ a j, Stt k a (lx j) → j ≤ kn k → pc a ≤ m.length → ∀ μ1, J a j μ1 → ∀ v0 : Int, v0 = (if pc a = m.length then 0 else 1000000) → EV (d + 5) T_X12_mend 3 [some (jR 69), some (jI i), some (jI a2), some (jI a3), some (jI (m.length : Nat)), some (jI a), some (jI ((j : Int) - 1)), some (jI v0), some (jI 0)] [] μ1 = EV (d + 5) T_X12_mend 2 [some (jR 69), some (jI i), some (jI a2), some (jI a3), some (jI (m.length : Nat)), some (jI a), some (jI (((j + 1 : Nat) : Int) - 1)), none, none] [] (jup μ1 92 ((11 * a + lx j : Nat) : Int) (B a (lx j))) := by
    intro a j hst hj hpa μ1 hJ v0 hv0
    have ha := hst.1
    have hjx := lx_le hj h10
    obtain ⟨hk1, hw1, hm1⟩ := pics μ1 hJ.1
    have fin : ∀ v : Int, v ≤ 1000000 → bI (CL (d + 5) 260 [jI a, jI ((j : Int) - 1)] μ1) (fun x1 μ1 => gd (0 ≤ x1 ∧ x1 < 11264) (EV (d + 5) T_X12_mend 2 [some (jR 69), some (jI i), some (jI a2), some (jI a3), some (jI (m.length : Nat)), some (jI a), some (jI (w32 (((j : Int) - 1) + 1))), none, none] [] (jup μ1 92 x1 (min v 1000000)))) = EV (d + 5) T_X12_mend 2 [some (jR 69), some (jI i), some (jI a2), some (jI a3), some (jI (m.length : Nat)), some (jI a), some (jI (((j + 1 : Nat) : Int) - 1)), none, none] [] (jup μ1 92 ((11 * a + lx j : Nat) : Int) v) := fun v hv => by
      rw [x_place _ _ a j (by omega) (by omega), bI_r, gd_t (by omega), x_inc _ (by omega), show min v 1000000 = v by omega]
    by_cases hfull : pc a = m.length
    · have hB : B a (lx j) = 0 := by
        show mcI mF k w m (m.length - pc a) a (lx j) = 0
        rw [show m.length - pc a = 0 by omega]
        rfl
      rw [if_pos hfull] at hv0
      rw [e_X12_mend_3, hk1.2.1, hB, hv0]
      by_cases h0 : (0 : Int) < kn k
      · rw [if_pos h0, c_bc _ _ _ (by omega), bI_r, if_neg (by omega)]
        exact fin 0 (by decide)
      · rw [if_neg h0]
        exact fin 0 (by decide)
    · rw [if_neg hfull] at hv0
      obtain ⟨r, hr⟩ : ∃ r, m.length - pc a = r + 1 := ⟨m.length - pc a - 1, by omega⟩
      let P : Nat → Bool := fun x => SS k w (fun _ _ => true) 0 a (lx j) x
      let f : Nat → Int := fun x => mcI mF k w m r (a ||| 2 ^ x) x + dch m a x
      have hB : B a (lx j) = mnI mF P f (kn k) := by
        show mcI mF k w m (m.length - pc a) a (lx j) = _
        rw [hr]
        show mnI mF P f 10 = _
        exact mnI_hi h10 (fun x h1 _ => gS_hi h1)
      have hSm : ∀ x, x < kn k → may k w a (lx j) x = P x := fun x hx => by
        show _ = SS k w (fun _ _ => true) 0 a (lx j) x
        unfold SS stp
        rw [decide_eq_true hx]
        simp
      have run := lp_0 (fun x : Nat => EV (d + 5) T_X12_mend 3 [some (jR 69), some (jI i), some (jI a2), some (jI a3), some (jI (m.length : Nat)), some (jI a), some (jI ((j : Int) - 1)), some (jI (mnI mF P f x)), some (jI x)] [] μ1) (kn k) (fun x hx => by
        have h2x := p2_le (show x ≤ 10 by omega)
        have e : mnI mF P f (x + 1) = if P x then min (mnI mF P f x) (f x) else mnI mF P f x := rfl
        rw [e_X12_mend_3, hk1.2.1, if_pos (by omega), c_bc _ _ _ (by omega), bI_r, if_pos (by omega), x_may _ hk1 hw1 a j x (by omega) hst hx, bI_r, hSm x hx, w_s x (by omega), e]
        cases hP : P x with
        | false =>
          rw [z_f, if_neg (by decide)]
        | true =>
          obtain ⟨hS2, hpc⟩ := SS_stt hko ha hP
          have hlt := hS2.1
          have hgt := or_gt (SS_i hP).2.2.2
          have hv := hJ.2 _ _ hS2 (by omega) (Or.inl hgt)
          have hv : μ1 92 ((11 * (a ||| 2 ^ x) + x : Nat) : Int) = mcI mF k w m (m.length - pc (a ||| 2 ^ x)) (a ||| 2 ^ x) x := hv
          rw [hpc, show m.length - (pc a + 1) = r by omega] at hv
          have hb := mcI_b (F := mF) (by decide) k w m r (a ||| 2 ^ x) x
          have hb2 : mcI mF k w m r (a ||| 2 ^ x) x ≤ 1000000 := hb.2
          have hfx : f x = mcI mF k w m r (a ||| 2 ^ x) x + dch m a x := rfl
          rw [z_t, shl_1 _ (by omega), or_nn a _ (by omega) (by omega), d_place _ _ _ x (by omega) (by omega), bI_r, gd_t (by omega), c_X12_menuAt _ i hi hm1 a (by omega) (by omega), bI_r, x_dch h10 hok a x (by omega), hv, if_pos rfl, hfx]
          unfold dch
          by_cases hz : m.getD (pc a) 10 = x
          · rw [if_pos hz, if_pos hz, w_id (by omega) (by omega)]
          · rw [if_neg hz, if_neg hz, w_id (by omega) (by omega)])
      have hv00 : v0 = mnI mF P f 0 := hv0
      rw [hv00]
      refine Eq.trans run ?_
      rw [e_X12_mend_3, hk1.2.1, if_neg (by omega), hB]
      exact fin _ (mnI_le _)
  have l2 : ∀ a, a < 2 ^ kn k → pc a ≤ m.length → ∀ μ1, J a 0 μ1 → ∃ μ2, EV (d + 5) T_X12_mend 2 [some (jR 69), some (jI i), some (jI a2), some (jI a3), some (jI (m.length : Nat)), some (jI a), some (jI (-1)), none, none] [] μ1 = EV (d + 5) T_X12_mend 1 [some (jR 69), some (jI i), some (jI a2), some (jI a3), some (jI (m.length : Nat)), some (jI ((a : Int) - 1)), none, none, none] [] μ2 ∧ J a (kn k + 1) μ2 := by
    intro a ha hpa μ1 hJ
    obtain ⟨μ2, e2, j2⟩ := lp_i (fun (j : Nat) (μ1 : jM) => EV (d + 5) T_X12_mend 2 [some (jR 69), some (jI i), some (jI a2), some (jI a3), some (jI (m.length : Nat)), some (jI a), some (jI ((j : Int) - 1)), none, none] [] μ1) (fun j μ1 => J a j μ1) (kn k + 1) (fun j μ1 hj hJ => by
      obtain ⟨hk1, hw1, hm1⟩ := pics μ1 hJ.1
      have hjx := lx_le (show j ≤ kn k by omega) h10
      show ∃ s', EV (d + 5) T_X12_mend 2 _ [] μ1 = _ ∧ _
      rw [e_X12_mend_2, hk1.2.1, if_pos (by omega), x_isState _ _ a j (by omega) (by omega), bI_r]
      cases hi2 : ist a (lx j) with
      | false =>
        rw [z_f, x_inc _ (by omega)]
        refine ⟨μ1, rfl, hJ.1, fun s l hs hp hc => hJ.2 s l hs hp ?_⟩
        rcases hc with z | ⟨z, j', z2, z3⟩
        · exact Or.inl z
        · refine Or.inr ⟨z, j', ?_, z3⟩
          by_cases hjj : j' = j
          · rw [hjj] at z3
            have h5 := hs.2.2
            rw [z, z3, hi2] at h5
            cases h5
          · omega
      | true =>
        have hst : Stt k a (lx j) := ⟨ha, lx_kn hj, hi2⟩
        have hjk : j ≤ kn k := by omega
        have go : J a (j + 1) (jup μ1 92 ((11 * a + lx j : Nat) : Int) (B a (lx j))) := ⟨fun q hq => (jup_ne hq).trans (hJ.1 q hq), fun s l hs hp hc => by
          have hl := Sok_10 hko (ist_S hko hs)
          rw [tab_up hjx hl]
          by_cases h1 : s = a ∧ l = lx j
          · rw [if_pos h1, h1.1, h1.2]
          · rw [if_neg h1]
            refine hJ.2 s l hs hp ?_
            rcases hc with z | ⟨z, j', z2, z3⟩
            · exact Or.inl z
            · refine Or.inr ⟨z, j', ?_, z3⟩
              by_cases hjj : j' = j
              · rw [hjj] at z3
                exact absurd ⟨z, z3⟩ h1
              · omega⟩
        rw [z_t, c_bc _ _ _ (by omega), bI_r]
        by_cases hfull : pc a = m.length
        · rw [if_pos (by omega)]
          exact ⟨_, l3 a j hst hjk hpa μ1 hJ 0 (by rw [if_pos hfull]), go⟩
        · rw [if_neg (by omega)]
          exact ⟨_, l3 a j hst hjk hpa μ1 hJ 1000000 (by rw [if_neg hfull]), go⟩) μ1 hJ
    refine ⟨μ2, e2.trans ?_, j2⟩
    show EV (d + 5) T_X12_mend 2 _ [] μ2 = _
    obtain ⟨hk1, hw1, hm1⟩ := pics μ2 j2.1
    rw [e_X12_mend_2, hk1.2.1, if_neg (by omega), w_id (by omega) (by omega)]
    rfl
  obtain ⟨μ2, e2, j2⟩ := lp_j (fun (x : Nat) (μ1 : jM) => EV (d + 5) T_X12_mend 1 [some (jR 69), some (jI i), some (jI a2), some (jI a3), some (jI (m.length : Nat)), some (jI ((x : Int) - 1)), none, none, none] [] μ1) (fun x μ1 => (∀ q, q ≠ 92 → μ1 q = μ q) ∧ ∀ s l, Stt k s l → pc s ≤ m.length → x ≤ s → μ1 92 ((11 * s + l : Nat) : Int) = B s l) (2 ^ kn k) (fun a μ1 ha hI => by
    have e1 : ((a + 1 : Nat) : Int) - 1 = (a : Int) := by omega
    by_cases hpa : pc a ≤ m.length
    · obtain ⟨μ2, e2, j2⟩ := l2 a ha hpa μ1 ⟨hI.1, fun s l hs hp hc => hI.2 s l hs hp (by
        rcases hc with z | ⟨_, j', z2, _⟩
        · omega
        · omega)⟩
      refine ⟨μ2, Eq.trans ?_ e2, j2.1, fun s l hs hp hc => j2.2 s l hs hp ?_⟩
      · show EV (d + 5) T_X12_mend 1 _ [] μ1 = _
        rw [e1, e_X12_mend_1, if_neg (by omega), c_bc _ _ _ (by omega), bI_r, if_neg (by omega)]
      · by_cases h1 : s = a
        · refine Or.inr ⟨h1, ?_⟩
          rcases hs.2.1 with z | z
          · exact ⟨0, by omega, by rw [z]; rfl⟩
          · exact ⟨l + 1, by omega, (lx_s l).symm⟩
        · exact Or.inl (by omega)
    · refine ⟨μ1, ?_, hI.1, fun s l hs hp hc => hI.2 s l hs hp ?_⟩
      · show EV (d + 5) T_X12_mend 1 _ [] μ1 = _
        rw [e1, e_X12_mend_1, if_neg (by omega), c_bc _ _ _ (by omega), bI_r, if_pos (by omega), w_id (by omega) (by omega)]
        rfl
      · by_cases h1 : s = a
        · rw [h1] at hp
          omega
        · omega) μ ⟨fun _ _ => rfl, fun s l hs hp hc => by have := hs.1; omega⟩
  have h2p := Nat.two_pow_pos (kn k)
  refine ⟨μ2, ?_, j2.1, fun s l hs hp => j2.2 s l hs hp (Nat.zero_le s)⟩
  have e1 : ((2 ^ kn k - 1 : Nat) : Int) = ((2 ^ kn k : Nat) : Int) - 1 := by omega
  rw [e1]
  exact e2
theorem c_X12_tellMended_1 (d : Nat) {k : Kt} {w : Lw} (i : Nat) (hi : i < 3) {m : List Nat} (hok : Mok (kn k) m) : ∀ (r s l : Nat) (μ : jM) (rs : List Int), KR μ k → LR μ w → MRi μ i m → Stt k s l → pc s + r = m.length → (∀ t n, Stt k t n → pc t ≤ m.length → μ 92 ((11 * t + n : Nat) : Int) = mcI mF k w m (m.length - pc t) t n) → mcI mF k w m r s l < mF → RR μ rs → rs.length = pc s → ∃ μ', EV (d + 4) T_X12_tellMended 1 [some (jR 69), some (jI i), some (jI (m.length : Nat)), some (jI s), some (jI (lno l)), none] [] μ = rV μ' ∧ (∀ q, q ≠ 69 → q ≠ 81 → μ' q = μ q) ∧ (∀ j, j ≠ 19 → μ' 69 j = μ 69 j) ∧ RR μ' (rs ++ mtl mF k w m r s l)
  | 0, s, l, μ, rs, hk, _, _, hst, hp, _, _, hr, _ => ⟨μ, by
    have h10 := hk.1.1
    have hN := p2_le h10
    have := hst.1
    rw [e_X12_tellMended_1, c_bc _ _ s (by omega), bI_r, if_neg (by omega)], fun _ _ _ => rfl, fun _ _ => rfl, by
    show RR μ (rs ++ [])
    rw [List.append_nil]
    exact hr⟩
  | r + 1, s, l, μ, rs, hk, hw, hm, hst, hp, hT, hv, hr, hl => by
    have hko := hk.1
    have h10 := hko.1
    have hN := p2_le h10
    have hs := hst.1
    have hml := hm.1
    have hl10 : l ≤ 10 := by rcases hst.2.1 with z | z <;> omega
    obtain ⟨n1, n2, n3⟩ := mnx_S hv
    let x := mnx mF k w m r s l
    have hx : x < kn k := (SS_i n2).1
    have n2' : SS k w (fun _ _ => true) 0 s l x = true := n2
    have n3' : mcI mF k w m r (s ||| 2 ^ x) x + dch m s x = mcI mF k w m (r + 1) s l := n3
    have tv : ∀ y, SS k w (fun _ _ => true) 0 s l y = true → μ 92 ((11 * (s ||| 2 ^ y) + y : Nat) : Int) = mcI mF k w m r (s ||| 2 ^ y) y ∧ s ||| 2 ^ y < 1024 := fun y hy => by
      obtain ⟨g1, g2⟩ := SS_stt hko hs hy
      have e : m.length - pc (s ||| 2 ^ y) = r := by omega
      rw [hT _ _ g1 (by omega), e]
      have := g1.1
      exact ⟨rfl, by omega⟩
    have tl : μ 92 ((11 * s + l : Nat) : Int) = mcI mF k w m (r + 1) s l := by
      rw [hT _ _ hst (by omega), show m.length - pc s = r + 1 by omega]
    have hSm : ∀ y, y < kn k → may k w s l y = SS k w (fun _ _ => true) 0 s l y := fun y hy => by
      unfold SS stp
      rw [decide_eq_true hy]
      simp
    have hlm : l = 10 ∨ l < kn k ∧ s.testBit l = true := by
      rcases hst.2.1 with z | z
      · exact Or.inl z
      · have := hst.2.2
        unfold ist at this
        rw [if_neg (by omega)] at this
        exact Or.inr ⟨z, this⟩
    obtain ⟨-, hPb, -⟩ := fs_spec (fun y => SS k w (fun _ _ => true) 0 s l y && decide (mcI mF k w m r (s ||| 2 ^ y) y + dch m s y = mcI mF k w m (r + 1) s l)) 10
    have hPb : ∀ y, y < x → (SS k w (fun _ _ => true) 0 s l y && decide (mcI mF k w m r (s ||| 2 ^ y) y + dch m s y = mcI mF k w m (r + 1) s l)) = false := hPb
    -- one place looked at
    have step : ∀ y : Nat, y < kn k → SS k w (fun _ _ => true) 0 s l y = true → EV (d + 4) T_X12_tellMended 2 [some (jR 69), some (jI i), some (jI (m.length : Nat)), some (jI s), some (jI (lno l)), some (jI y)] [] μ = if mcI mF k w m r (s ||| 2 ^ y) y + dch m s y = mcI mF k w m (r + 1) s l then (bV (CL (d + 4) 209 [jR 69, jI y] μ) fun μ7 => EV (d + 4) T_X12_tellMended 1 [some (jR 69), some (jI i), some (jI (m.length : Nat)), some (jI (s ||| 2 ^ y : Nat)), some (jI y), none] [] μ7) else EV (d + 4) T_X12_tellMended 2 [some (jR 69), some (jI i), some (jI (m.length : Nat)), some (jI s), some (jI (lno l)), some (jI (y + 1 : Nat))] [] μ := fun y hy hz => by
      obtain ⟨t1, t2⟩ := tv y hz
      have h2y := p2_le (show y ≤ 10 by omega)
      have hb := mcI_b (F := mF) (by decide) k w m r (s ||| 2 ^ y) y
      have hb2 : mcI mF k w m r (s ||| 2 ^ y) y ≤ 1000000 := hb.2
      rw [e_X12_tellMended_2, c_X12_may _ hk hw s l y hs hlm hy, bI_r, hSm y hy, hz, z_t, shl_1 y (by omega), or_nn _ _ (by omega) (by omega), d_place _ _ _ y (by omega) (by omega), bI_r, gd_t (by omega), c_X12_menuAt _ i hi hm s (by omega) (by omega), bI_r, x_dch h10 hok s y (by omega), c_X12_place _ μ s l (by omega) hl10, bI_r, bI_r, gd_t (by omega), gd_t (by omega), t1, tl, w_s y (by omega)]
      unfold dch
      by_cases hz : m.getD (pc s) 10 = y
      · rw [if_pos hz, if_pos hz, w_id (by omega) (by omega)]
      · rw [if_neg hz, if_neg hz, w_id (by omega) (by omega)]
    have key := lp_0 (fun y : Nat => EV (d + 4) T_X12_tellMended 2 [some (jR 69), some (jI i), some (jI (m.length : Nat)), some (jI s), some (jI (lno l)), some (jI y)] [] μ) x (fun y hy => by
      have hP := hPb y hy
      cases hz : SS k w (fun _ _ => true) 0 s l y with
      | false => rw [e_X12_tellMended_2, c_X12_may _ hk hw s l y hs hlm (by omega), bI_r, hSm y (by omega), hz, z_f, w_s y (by omega)]
      | true =>
        rw [hz, Bool.true_and, decide_eq_false_iff_not] at hP
        exact (step y (by omega) hz).trans (if_neg hP))
    obtain ⟨g1, g2⟩ := SS_stt hko hs n2'
    have hd := dch_b m s x
    have hpc := pc_le hs (by omega)
    have elx : lno x = (x : Int) := if_neg (by omega)
    obtain ⟨μ1, e1, f1, h1, r1⟩ := c_X12_tell (d + 3) hr (x : Nat) (by omega)
    obtain ⟨μ2, e2, f2, h2, r2⟩ := c_X12_tellMended_1 d i hi hok r (s ||| 2 ^ x) x μ1 (rs ++ [(x : Int)]) (KR_cg hk (fun q _ _ => f1 q (by omega) (by omega)) (h1 1 (by decide)) (h1 6 (by decide))) (LR_cg hw (f1 70 (by decide) (by decide)) (h1 9 (by decide)) (h1 10 (by decide)) (h1 11 (by decide))) (MRi_cg hm (f1 79 (by decide) (by decide)) (f1 78 (by decide) (by decide))) g1 (by omega) (fun t n ht hpt => by rw [f1 92 (by decide) (by decide)]; exact hT t n ht hpt) (by omega) r1 (by
      rw [List.length_append, hl, g2]
      rfl)
    rw [elx] at e2
    refine ⟨μ2, ?_, fun q a b => (f2 q a b).trans (f1 q a b), fun j hj => (h2 j hj).trans (h1 j hj), ?_⟩
    · rw [e_X12_tellMended_1, c_bc _ _ s (by omega), bI_r, if_pos (by omega)]
      refine Eq.trans key ?_
      refine Eq.trans (step x hx n2') ?_
      rw [if_pos n3', e1, bV_r]
      exact e2
    · rw [List.append_assoc] at r2
      exact r2
