/-- is a bit of one behind a set's ends -/
theorem re_nr {k : Kt} (hk : Kok k) {w : Lw} {A : Ap} {s0 l0 : Nat} (h0 : Sok k s0 l0) {s x : Nat} (hs : s < 2 ^ kn k) (hx : x < kn k) (hb : s.testBit x = false) (hne : s ||| 2 ^ x ≠ s0) : ((opn k w A s0 s).testBit x && ((re k w A s0 l0 s &&& nr k w x) != 0)) = rr k w A s0 l0 (s ||| 2 ^ x) x := by
  rw [rr_s hk h0 hs hx hb hne]
  cases h : anb (fun l' => rr k w A s0 l0 s l' && stp k w A (pc s - pc s0) s l' x) 11 with
  | true =>
    obtain ⟨l', h1, h2⟩ := anb_iff.mp h
    rw [Bool.and_eq_true] at h2
    obtain ⟨g1, g2⟩ := rr_in hk h0 h2.1
    have h3 := opn_stp (A := A) hk (w := w) (s0 := s0) hs (Sok_l g1) g2 hx
    rw [h2.2, Bool.and_eq_true] at h3
    rw [h3.1, Bool.true_and, bne_iff_ne]
    intro z
    exact and_z.mp z l' ⟨by rw [re_tb h1]; exact h2.1, h3.2⟩
  | false =>
    cases ho : (opn k w A s0 s).testBit x with
    | false => rfl
    | true =>
      rw [Bool.true_and]
      have hz : (re k w A s0 l0 s &&& nr k w x) = 0 := and_z.mpr (fun l' hl => by
        have hl2 : l' < 11 := by
          by_cases h9 : l' < 11
          · exact h9
          · rw [tb_hi (n := 11) (re_lt k w A s0 l0 s) (by omega)] at hl
            cases hl.1
        rw [re_tb hl2] at hl
        obtain ⟨g1, g2⟩ := rr_in hk h0 hl.1
        have h3 := opn_stp (A := A) hk (w := w) (s0 := s0) hs (Sok_l g1) g2 hx
        rw [ho, hl.2] at h3
        have h4 := anb_f h hl2
        rw [hl.1, ← h3] at h4
        cases h4)
      rw [hz]
      rfl
theorem c_X8_reach (d : Nat) {μ : jM} {k : Kt} {w : Lw} {s0 l0 : Nat} {A : Ap} (h : TL μ k w) (hb : TB μ s0 l0 A) (h0 : Sok k s0 l0) : ∃ μ', CL (d + 4) 121 [jR 29] μ = rV μ' ∧ (∀ q, q ≠ 31 → μ' q = μ q) ∧ ∀ s : Nat, s < 2 ^ kn k → μ' 31 s = (re k w A s0 l0 s : Int) := by
  have hk := h.1
  have h10 := hk.1
  have h2n := p2_le h10
  have hs0 := h0.1
  have hl0 : l0 < 11 := by rcases h0.2 with z | z <;> omega
  let N := 2 ^ kn k
  let μ1 : jM := jpre μ 31 (fun _ => 0) 1024
  -- what stands there when a set's turn comes; within its turn
  let pe : Nat → Nat → Nat := fun a s => bm (fun l => if s = s0 then l == l0 else decide (nd s (2 ^ l) < a) && rr k w A s0 l0 s l) 11
  let pd : Nat → Nat → Nat → Nat := fun a x s => bm (fun l => if s = s0 then l == l0 else (decide (nd s (2 ^ l) < a) || (decide (nd s (2 ^ l) = a) && decide (l < x))) && rr k w A s0 l0 s l) 11
  let F : Nat → jM := fun a => jpre μ1 31 (fun s => (pe a s : Int)) N
  let G : Nat → Nat → jM := fun a x => jpre μ1 31 (fun s => (pd a x s : Int)) N
  have fq : ∀ g q, q ≠ 31 → jpre μ1 31 g N q = μ q := fun g q hq => (jpre_ne hq).trans (jpre_ne hq)
  have tl : ∀ g, TL (jpre μ1 31 g N) k w := fun g => TL_cg h (fun q hq => fq g q (by omega)) (fun j _ => by rw [fq g 29 (by decide)])
  have tb : ∀ g, TB (jpre μ1 31 g N) s0 l0 A := fun g => TB_cg hb (by rw [fq g 29 (by decide)]) (by rw [fq g 29 (by decide)]) (fq g 33 (by decide))
  have pdlt : ∀ a x s, pd a x s < 2048 := fun a x s => bm_lt _ 11
  have notin : ∀ s l, s ≠ s0 → s.testBit l = false → rr k w A s0 l0 s l = false := fun s l hs hl => by
    cases hz : rr k w A s0 l0 s l with
    | false => rfl
    | true =>
      unfold rr at hz
      generalize pc s - pc s0 = m at hz
      cases m with
      | zero =>
        simp only [rc, Bool.and_eq_true, beq_iff_eq] at hz
        exact absurd hz.1 hs
      | succ m =>
        simp only [rc, hl, Bool.and_false, Bool.false_and] at hz
        cases hz
  have own : ∀ a x, pd a x a = re k w A s0 l0 a := fun a x => by
    apply bm_cg
    intro l hl
    by_cases ha : a = s0
    · rw [if_pos ha, ha, rr_0]
    · rw [if_neg ha]
      cases hbit : a.testBit l with
      | false => rw [notin a l ha hbit, Bool.and_false]
      | true =>
        have := nd_lt hbit
        simp [this]
  have ex : ∀ (d : Nat) (g : Nat → Int), CL (d + 1) 111 [jR 29] (jpre μ1 31 g N) = rI ((N : Nat) : Int) (jpre μ1 31 g N) := fun d g => c_X8_sets d (tl g).2.2.1 h10
  -- within a turn
  have inner : ∀ a : Nat, a < N → s0 ≤ a → ∀ (o : Nat), o < 1024 → (∀ x, x < kn k → (o.testBit x && ((re k w A s0 l0 a &&& nr k w x) != 0)) = ((opn k w A s0 a).testBit x && ((re k w A s0 l0 a &&& nr k w x) != 0))) → EV (d + 3) T_X8_reach 2 [some (jR 29), some (jI a), some (jI o), some (jI 0)] [] (F a) = EV (d + 3) T_X8_reach 1 [some (jR 29), some (jI (a + 1 : Nat)), none, none] [] (F (a + 1)) := by
    intro a ha hsa o ho hoo
    have hF : F a = G a 0 := jpre_cg (fun s _ => congrArg (fun z : Nat => (z : Int)) (bm_cg (fun l _ => by simp)))
    rw [hF]
    refine (lp_0 (fun x : Nat => EV (d + 3) T_X8_reach 2 [some (jR 29), some (jI a), some (jI o), some (jI x)] [] (G a x)) (kn k) (fun x hx => ?_)).trans ?_
    · have hnr := nr_lt hk w x
      have hre := re_lt k w A s0 l0 a
      have h2x := p2_le (show x ≤ 10 by omega)
      have hox := hoo x hx
      have e31 : G a x 31 a = (re k w A s0 l0 a : Int) := by
        rw [← own a x]
        exact jpre_lo ha
      have e6 : G a x 29 6 = (kn k : Int) := (tl _).2.2.1
      have e32 : G a x 32 x = (nr k w x : Int) := (tl _).2.2.2.2.2.1 x hx
      rw [e_X8_reach_2, e6, if_pos (by omega), tb_1 o x (by omega) (by omega), gd_t (by omega), gd_t (by omega), e31, e32, and_nn _ _ (by omega) (by omega), w_s _ (by omega)]
      -- nothing comes
      have same : ((opn k w A s0 a).testBit x && ((re k w A s0 l0 a &&& nr k w x) != 0)) = false → G a x = G a (x + 1) := fun hz => jpre_cg (fun s hs => congrArg (fun z : Nat => (z : Int)) (bm_cg (fun l hl => by
        by_cases hs2 : s = s0
        · rw [if_pos hs2, if_pos hs2]
        · rw [if_neg hs2, if_neg hs2]
          by_cases hlx : l = x ∧ nd s (2 ^ l) = a
          · obtain ⟨rfl, hnd⟩ := hlx
            have hr : rr k w A s0 l0 s l = false := by
              cases hbit : s.testBit l with
              | false => exact notin s l hs2 hbit
              | true =>
                have hab : a.testBit l = false := by
                  rw [← hnd, nd_tb, Nat.testBit_two_pow]
                  simp
                have e9 : a ||| 2 ^ l = s := by rw [← hnd, nd_or hbit]
                have h9 := re_nr (A := A) (w := w) hk h0 ha hx hab (by rw [e9]; exact hs2)
                rw [hz, e9] at h9
                exact h9.symm
            rw [hr, Bool.and_false, Bool.and_false]
          · have e8 : (decide (nd s (2 ^ l) = a) && decide (l < x)) = (decide (nd s (2 ^ l) = a) && decide (l < x + 1)) := by
              by_cases h8 : nd s (2 ^ l) = a
              · have : (l < x) ↔ (l < x + 1) := by
                  constructor
                  · omega
                  · intro h7
                    have : l ≠ x := fun h6 => hlx ⟨h6, h8⟩
                    omega
                simp [h8, this]
              · simp [h8]
            rw [e8])))
      cases hot : o.testBit x with
      | false =>
        rw [hot, Bool.false_and] at hox
        refine (if_neg (by decide)).trans ?_
        rw [same hox.symm]
      | true =>
        rw [hot, Bool.true_and] at hox
        refine (if_pos rfl).trans ?_
        by_cases hz : re k w A s0 l0 a &&& nr k w x = 0
        · rw [if_pos (by omega)]
          rw [same (by rw [hz]; simp)]
        · rw [if_neg (by omega)]
          have hz2 : ((re k w A s0 l0 a &&& nr k w x) != 0) = true := by simpa using hz
          rw [hz2] at hox
          have hopn : (opn k w A s0 a).testBit x = true := by
            cases h9 : (opn k w A s0 a).testBit x with
            | true => rfl
            | false => rw [h9] at hox; cases hox
          have hab : a.testBit x = false := by
            unfold opn at hopn
            split at hopn
            · rw [Nat.zero_testBit] at hopn; cases hopn
            · rw [bm_tb] at hopn
              cases h9 : a.testBit x with
              | false => rfl
              | true => rw [h9] at hopn; simp at hopn
          have hor : a ||| 2 ^ x < N := Nat.or_lt_two_pow ha (Nat.pow_lt_pow_right (by decide) hx)
          have hne : a ||| 2 ^ x ≠ s0 := fun z => by
            have := or_gt hab
            omega
          have hrr := re_nr (A := A) (w := w) hk h0 ha hx hab hne
          rw [hopn, hz2] at hrr
          have e31b : G a x 31 (a ||| 2 ^ x : Nat) = (pd a x (a ||| 2 ^ x) : Int) := jpre_lo hor
          have hpd := pdlt a x (a ||| 2 ^ x)
          rw [shl_1 _ (by omega), or_nn a _ (by omega) (by omega), gd_t (by omega), gd_t (by omega), e31b, or_nn _ _ (by omega) (by omega)]
          congr 1
          refine (jpre_up hor).trans (jpre_cg (fun s hs => ?_))
          by_cases hse : s = a ||| 2 ^ x
          · rw [if_pos hse, hse]
            refine congrArg (fun z : Nat => (z : Int)) ?_
            apply Nat.eq_of_testBit_eq
            intro l
            rw [Nat.testBit_or, Nat.testBit_two_pow]
            show ((bm _ 11).testBit l || _) = (bm _ 11).testBit l
            rw [bm_tb, bm_tb, if_neg hne, if_neg hne]
            by_cases hlx : x = l
            · subst hlx
              have e7 : nd (a ||| 2 ^ x) (2 ^ x) = a := or_nd hab
              rw [e7, ← hrr]
              have : x < 11 := by omega
              simp [this]
            · have e8 : (decide (nd (a ||| 2 ^ x) (2 ^ l) = a) && decide (l < x)) = (decide (nd (a ||| 2 ^ x) (2 ^ l) = a) && decide (l < x + 1)) := by
                have : (l < x) ↔ (l < x + 1) := by omega
                simp [this]
              rw [e8]
              simp [hlx]
          · rw [if_neg hse]
            refine congrArg (fun z : Nat => (z : Int)) (bm_cg (fun l hl => ?_))
            by_cases hs2 : s = s0
            · rw [if_pos hs2, if_pos hs2]
            · rw [if_neg hs2, if_neg hs2]
              by_cases hlx : l = x ∧ nd s (2 ^ l) = a
              · obtain ⟨rfl, hnd⟩ := hlx
                cases hbit : s.testBit l with
                | false => rw [notin s l hs2 hbit, Bool.and_false, Bool.and_false]
                | true => exact absurd (by rw [← hnd, nd_or hbit]) hse
              · have e8 : (decide (nd s (2 ^ l) = a) && decide (l < x)) = (decide (nd s (2 ^ l) = a) && decide (l < x + 1)) := by
                  by_cases h8 : nd s (2 ^ l) = a
                  · have : (l < x) ↔ (l < x + 1) := by
                      constructor
                      · omega
                      · intro h7
                        have : l ≠ x := fun h6 => hlx ⟨h6, h8⟩
                        omega
                    simp [h8, this]
                  · simp [h8]
                rw [e8]
    · have e6 : G a (kn k) 29 6 = (kn k : Int) := (tl _).2.2.1
      rw [e_X8_reach_2, e6, if_neg (by omega), w_s _ (by omega)]
      congr 1
      refine jpre_cg (fun s hs => congrArg (fun z : Nat => (z : Int)) (bm_cg (fun l hl => ?_)))
      by_cases hs2 : s = s0
      · rw [if_pos hs2, if_pos hs2]
      · rw [if_neg hs2, if_neg hs2]
        cases hr : rr k w A s0 l0 s l with
        | false => rw [Bool.and_false, Bool.and_false]
        | true =>
          have hln : l < kn k := by
            cases hbit : s.testBit l with
            | false => rw [notin s l hs2 hbit] at hr; cases hr
            | true =>
              by_cases h9 : l < kn k
              · exact h9
              · rw [tb_hi hs (by omega)] at hbit
                cases hbit
          simp only [Bool.and_true, hln, decide_true]
          by_cases h8 : nd s (2 ^ l) = a
          · simp [h8]
          · have : (nd s (2 ^ l) < a) ↔ (nd s (2 ^ l) < a + 1) := by omega
            simp [h8, this]
  have outer : ∀ j : Nat, j < N - s0 → EV (d + 3) T_X8_reach 1 [some (jR 29), some (jI (s0 + j : Nat)), none, none] [] (F (s0 + j)) = EV (d + 3) T_X8_reach 1 [some (jR 29), some (jI (s0 + (j + 1) : Nat)), none, none] [] (F (s0 + (j + 1))) := by
    intro j hj
    have hF : F (s0 + j) = G (s0 + j) 0 := jpre_cg (fun s _ => congrArg (fun z : Nat => (z : Int)) (bm_cg (fun l _ => by simp)))
    have e31 : F (s0 + j) 31 (s0 + j : Nat) = (re k w A s0 l0 (s0 + j) : Int) := by
      rw [hF, ← own (s0 + j) 0]
      exact jpre_lo (show s0 + j < N by omega)
    rw [e_X8_reach_1, ex, bI_r, if_pos (by omega), gd_t (by omega)]
    show (if F (s0 + j) 31 (s0 + j : Nat) = 0 then _ else _) = _
    rw [e31]
    by_cases hz : re k w A s0 l0 (s0 + j) = 0
    · rw [if_pos (by omega)]
      exact inner (s0 + j) (by omega) (by omega) 0 (by decide) (fun x _ => by rw [hz, Nat.zero_and]; simp)
    · rw [if_neg (by omega), c_X8_open _ (tl _) (tb _) hs0 (s0 + j) (show s0 + j < 2 ^ kn k by omega), bI_r]
      exact inner (s0 + j) (by omega) (by omega) _ (opn_lt hk w A s0 _) (fun x _ => rfl)
  have hN : s0 < N := hs0
  have m1 : μ1 29 9 = (s0 : Int) := by
    show jpre μ 31 _ 1024 29 9 = _
    rw [jpre_ne (by decide)]
    exact hb.1
  have m10 : μ1 29 10 = (l0 : Int) := by
    show jpre μ 31 _ 1024 29 10 = _
    rw [jpre_ne (by decide)]
    exact hb.2.1
  refine ⟨F N, ?_, fun q hq => fq _ q hq, fun s hs => ?_⟩
  · have hfill : ∀ d, CL (d + 1) 1 [jR 31, jI 0] μ = rV μ1 := fun d => c_fill d μ 31 1024 0 (by decide) (by decide)
    rw [e_X8_reach, hfill, bV_r]
    have h6 : μ1 29 6 = (kn k : Int) := by
      show jpre μ 31 _ 1024 29 6 = _
      rw [jpre_ne (by decide)]
      exact h.2.2.1
    rw [m1, if_neg (by omega), c_X8_sets _ h6 h10, bI_r, m1, if_pos (by omega), gd_t (by omega), m10, jup_n (by decide), m1, shl_1 _ (by omega)]
    have eF : jup μ1 31 s0 ((2 ^ l0 : Nat) : Int) = F s0 := by
      have e1 : μ1 = jpre μ1 31 (fun _ => 0) N := by
        funext q j
        by_cases hq : q = 31
        · subst hq
          by_cases hj : 0 ≤ j ∧ j < (N : Int)
          · obtain ⟨m, rfl⟩ := Int.eq_ofNat_of_zero_le hj.1
            rw [jpre_lo (show m < N by omega)]
            exact jpre_lo (show m < 1024 by omega)
          · show _ = jfill μ1 31 _ 31 j
            rw [jfill_eq]
            show _ = if 0 ≤ j ∧ j < (N : Int) then _ else _
            rw [if_neg hj]
        · rw [jpre_ne hq]
      have e2 : jup μ1 31 s0 ((2 ^ l0 : Nat) : Int) = jup (jpre μ1 31 (fun _ => 0) N) 31 s0 ((2 ^ l0 : Nat) : Int) := by rw [← e1]
      rw [e2]
      refine (jpre_up hN).trans ?_
      refine jpre_cg (fun s hs => ?_)
      by_cases hse : s = s0
      · rw [if_pos hse]
        refine congrArg (fun z : Nat => (z : Int)) ?_
        apply Nat.eq_of_testBit_eq
        intro l
        show _ = (bm _ 11).testBit l
        rw [bm_tb, Nat.testBit_two_pow, if_pos hse]
        by_cases hl : l0 = l
        · subst hl
          simp [hl0]
        · have : (l == l0) = false := by simpa using Ne.symm hl
          simp [hl, this]
      · rw [if_neg hse]
        have : pe s0 s = 0 := by
          apply Nat.eq_of_testBit_eq
          intro l
          show (bm _ 11).testBit l = _
          rw [bm_tb, if_neg hse, Nat.zero_testBit]
          cases hr : rr k w A s0 l0 s l with
          | false => simp
          | true =>
            -- what leads to another set has the start's in it
            have hge : s0 ≤ nd s (2 ^ l) := by
              have : ∀ m s l, rc k w A s0 l0 m s l = true → s0 ≤ s := by
                intro m
                induction m with
                | zero =>
                  intro s l hz
                  simp only [rc, Bool.and_eq_true, beq_iff_eq] at hz
                  omega
                | succ m ih =>
                  intro s l hz
                  simp only [rc, Bool.and_eq_true, decide_eq_true_eq] at hz
                  obtain ⟨l', -, h9⟩ := anb_iff.mp hz.2
                  rw [Bool.and_eq_true] at h9
                  have := ih _ _ h9.1
                  have := nd_le s (2 ^ l)
                  omega
              unfold rr at hr
              generalize pc s - pc s0 = m at hr
              cases m with
              | zero =>
                simp only [rc, Bool.and_eq_true, beq_iff_eq] at hr
                exact absurd hr.1 hse
              | succ m =>
                simp only [rc, Bool.and_eq_true, decide_eq_true_eq] at hr
                obtain ⟨l', -, h9⟩ := anb_iff.mp hr.2
                rw [Bool.and_eq_true] at h9
                exact this _ _ _ h9.1
            have : ¬ nd s (2 ^ l) < s0 := by omega
            simp [this]
        rw [this]
        rfl
    rw [eF]
    refine Eq.trans ?_ ((lp_0 (fun j : Nat => EV (d + 3) T_X8_reach 1 [some (jR 29), some (jI (s0 + j : Nat)), none, none] [] (F (s0 + j))) (N - s0) outer).trans ?_)
    · rfl
    · have e9 : s0 + (N - s0) = N := by omega
      rw [e9, e_X8_reach_1, ex, bI_r, if_neg (by omega)]
  · show jpre μ1 31 _ N 31 s = _
    rw [jpre_lo hs]
    refine congrArg (fun z : Nat => (z : Int)) (bm_cg (fun l hl => ?_))
    by_cases hse : s = s0
    · rw [if_pos hse, hse, rr_0]
    · rw [if_neg hse]
      have : nd s (2 ^ l) < N := Nat.lt_of_le_of_lt (nd_le _ _) hs
      simp [this]
theorem c_X8_ends (d : Nat) {μ : jM} {k : Kt} {w : Lw} {A : Ap} {s0 l0 : Nat} (hk : Kok k) (h : ∀ s : Nat, s < 2 ^ kn k → μ 31 s = (re k w A s0 l0 s : Int)) (s : Nat) (hs : s < 2 ^ kn k) : CL (d + 1) 118 [jR 29, jI s] μ = rI (re k w A s0 l0 s : Int) μ := by
  have h2 := p2_le hk.1
  rw [e_X8_ends, if_neg (by omega), if_pos (by omega), gd_t (by omega), h s hs]
