theorem SP_j {μ : jM} {k : Kt} {w : Lw} {A : Ap} {s0 l0 : Nat} (h : SP μ k w A s0 l0) (p : Nat) (hp : p < 29 ∨ 35 < p) (g : Nat → Int) (n : Nat) : SP (jpre μ p g n) k w A s0 l0 := SP_cg h (fun q _ _ => jpre_ne (by omega))
theorem SP_u {μ : jM} {k : Kt} {w : Lw} {A : Ap} {s0 l0 : Nat} (h : SP μ k w A s0 l0) (p : Nat) (hp : p < 29 ∨ 35 < p) (i v : Int) : SP (jup μ p i v) k w A s0 l0 := SP_cg h (fun q _ _ => jup_ne (by omega))
theorem c_X5_lead (d : Nat) {μ : jM} {k : Kt} {w : Lw} {A : Ap} {s0 l0 : Nat} (h : SP μ k w A s0 l0) {G : Nat → Nat → Bool} {m : Nat} (hG : ∀ s l, G s l = true → rr k w A s0 l0 s l = true ∧ pc s = pc s0 + m) (hm : ∀ s : Nat, s < 2 ^ kn k → μ 44 s = (bm (fun l => G s l) 11 : Int)) : ∃ μ', CL (d + 4) 87 [jR 36, jR 29] μ = rV μ' ∧ (∀ q, q ≠ 44 → μ' q = μ q) ∧ ∀ s : Nat, s < 2 ^ kn k → μ' 44 s = (mk k w A s0 l0 G m s : Int) := by
  obtain ⟨hk, h10, h0, hN⟩ := SP_k h
  let N := 2 ^ kn k
  let gm : Nat → Nat → Nat := fun a s => if a ≤ s then mk k w A s0 l0 G m s else bm (fun l => G s l) 11
  -- within set a, x done
  let gx : Nat → Nat → Nat → Nat := fun a x s => if s = a then bm (fun l => G a l || anb (fun y => hit k w A s0 l0 G m a l y) x) 11 else gm (a + 1) s
  let M : Nat → jM := fun a => jpre μ 44 (fun s => (gm a s : Int)) N
  let X : Nat → Nat → jM := fun a x => jpre μ 44 (fun s => (gx a x s : Int)) N
  have gmlt : ∀ a s, gm a s < 2048 := fun a s => by
    show (if a ≤ s then _ else _) < 2048
    split
    · exact mk_lt _ _ _ _ _ _ _ _
    · exact bm_lt _ 11
  have spX : ∀ a x, SP (X a x) k w A s0 l0 := fun a x => SP_j h 44 (by omega) _ _
  have spM : ∀ a, SP (M a) k w A s0 l0 := fun a => SP_j h 44 (by omega) _ _
  have start : ∀ a, a < N → M (a + 1) = X a 0 := fun a ha => jpre_cg (fun s hs => by
    show ((gm (a + 1) s : Nat) : Int) = (gx a 0 s : Int)
    show _ = (((if s = a then _ else _) : Nat) : Int)
    by_cases hsa : s = a
    · subst hsa
      rw [if_pos rfl]
      refine congrArg (fun z : Nat => (z : Int)) ?_
      show (if s + 1 ≤ s then _ else _) = _
      rw [if_neg (by omega)]
      exact bm_cg (fun l _ => by simp [anb])
    · rw [if_neg hsa])
  have stop : ∀ a, a < N → X a (kn k) = M a := fun a ha => jpre_cg (fun s hs => by
    show (((if s = a then _ else _) : Nat) : Int) = (((if a ≤ s then _ else _) : Nat) : Int)
    by_cases hsa : s = a
    · subst hsa
      rw [if_pos rfl, if_pos (Nat.le_refl s)]
      exact congrArg (fun z : Nat => (z : Int)) (bm_cg (fun l _ => mr_hit hk h.2.2.1 hG hs))
    · rw [if_neg hsa]
      show (((if a + 1 ≤ s then _ else _) : Nat) : Int) = _
      by_cases h1 : a + 1 ≤ s
      · rw [if_pos h1, if_pos (by omega)]
      · rw [if_neg h1, if_neg (by omega)])
  have inner : ∀ a : Nat, a < N → ∀ o : Nat, o < 1024 → (∀ x l, x < kn k → (o.testBit x && rr k w A s0 l0 a l) = ((opn k w A s0 a).testBit x && rr k w A s0 l0 a l)) → EV (d + 3) T_X5_lead 2 [some (jR 36), some (jR 29), some (jI a), some (jI o), some (jI 0)] [] (M (a + 1)) = EV (d + 3) T_X5_lead 1 [some (jR 36), some (jR 29), some (jI ((a : Int) - 1)), none, none] [] (M a) := by
    intro a ha o ho hoo
    rw [start a ha]
    refine (lp_0 (fun x : Nat => EV (d + 3) T_X5_lead 2 [some (jR 36), some (jR 29), some (jI a), some (jI o), some (jI x)] [] (X a x)) (kn k) (fun x hx => ?_)).trans ?_
    · have hnr := nr_lt hk w x
      have hre := re_lt k w A s0 l0 a
      have eX : X a x 44 a = (bm (fun l => G a l || anb (fun y => hit k w A s0 l0 G m a l y) x) 11 : Int) := by
        refine (jpre_lo ha).trans ?_
        show (((if a = a then _ else _) : Nat) : Int) = _
        rw [if_pos rfl]
      have hb1 : bm (fun l => G a l || anb (fun y => hit k w A s0 l0 G m a l y) x) 11 < 2048 := bm_lt _ 11
      -- nothing comes
      have same : (∀ l, l < 11 → hit k w A s0 l0 G m a l x = false) → X a x = X a (x + 1) := fun hz => jpre_cg (fun s hs => by
        show (((if s = a then _ else _) : Nat) : Int) = (((if s = a then _ else _) : Nat) : Int)
        by_cases hsa : s = a
        · rw [if_pos hsa, if_pos hsa]
          refine congrArg (fun z : Nat => (z : Int)) (bm_cg (fun l hl => ?_))
          show _ = (G a l || (anb _ x || hit k w A s0 l0 G m a l x))
          rw [hz l hl, Bool.or_false]
        · rw [if_neg hsa, if_neg hsa])
      rw [e_X5_lead_2, c_dishes _ (spX a x), bI_r, if_pos (by omega), tb_1 o x (by omega) (by omega), w_s _ (by omega)]
      cases hot : o.testBit x with
      | false =>
        refine (if_neg (by decide)).trans ?_
        rw [same (fun l hl => ?_)]
        have := hoo x l hx
        rw [hot, Bool.false_and] at this
        unfold hit
        cases h1 : (opn k w A s0 a).testBit x with
        | false => rfl
        | true =>
          rw [h1, Bool.true_and] at this
          rw [← this]
          simp
      | true =>
        refine (if_pos rfl).trans ?_
        have hor := or_lt (k := k) ha hx
        by_cases hab : a.testBit x = true
        · -- it is in: never open, and marked or not it's nothing
          have ho2 : ∀ l, rr k w A s0 l0 a l = false := fun l => by
            have := hoo x l hx
            have hop : (opn k w A s0 a).testBit x = false := by
              unfold opn
              split
              · exact Nat.zero_testBit x
              · rw [bm_tb]
                simp [hab]
            rw [hot, hop, Bool.true_and, Bool.false_and] at this
            exact this
          have hre0 : re k w A s0 l0 a = 0 := by
            apply Nat.eq_of_testBit_eq
            intro l
            unfold re
            rw [bm_tb, ho2 l, Nat.zero_testBit, Bool.and_false]
          have hm2 : ∀ μ1 : jM, ∀ d, SP μ1 k w A s0 l0 → CL (d + 1) 118 [jR 29, jI a] μ1 = rI 0 μ1 := fun μ1 d hh => by
            have := c_ends d hh a ha
            rw [hre0] at this
            exact this
          have hz : ∀ l, l < 11 → hit k w A s0 l0 G m a l x = false := fun l _ => by
            unfold hit
            rw [ho2 l]
            simp
          have hax : a ||| 2 ^ x = a := by
            apply Nat.eq_of_testBit_eq
            intro i
            rw [Nat.testBit_or, Nat.testBit_two_pow]
            by_cases hi : x = i
            · subst hi
              simp [hab]
            · simp [hi]
          rw [shl_1 _ (by omega), or_nn a _ (by omega) (by have := p2_le (show x ≤ 10 by omega); omega), c_X5_isMarked _ _ (a ||| 2 ^ x) x _ (by omega) (by omega) hb1 (by rw [hax]; exact eX), bI_r]
          by_cases hmk : (bm (fun l => G a l || anb (fun y => hit k w A s0 l0 G m a l y) x) 11).testBit x = true
          · rw [hmk]
            refine (if_neg (by decide)).trans ?_
            rw [gd_t (by omega), hm2 _ _ (spX a x), bI_r, c_near _ (spX a x) x (Or.inr hx), bI_r, gd_t (by omega), eX]
            have e0 : jand 0 (nra k w x : Int) = 0 := by
              have := and_nn 0 (nra k w x) (by decide) (by have := nra_lt hk w x; omega)
              rw [Nat.zero_and] at this
              exact this
            have e1 := or_nn (bm (fun l => G a l || anb (fun y => hit k w A s0 l0 G m a l y) x) 11) 0 (by omega) (by decide)
            rw [Nat.or_zero] at e1
            rw [e0, show (0 : Int) = ((0 : Nat) : Int) from rfl, e1, jup_id eX, same hz]
          · have : (bm (fun l => G a l || anb (fun y => hit k w A s0 l0 G m a l y) x) 11).testBit x = false := by simpa using hmk
            rw [this]
            refine (if_pos rfl).trans ?_
            rw [same hz]
        · have hab2 : a.testBit x = false := by simpa using hab
          have hgt := or_gt hab2
          have eX2 : X a x 44 (a ||| 2 ^ x : Nat) = (mk k w A s0 l0 G m (a ||| 2 ^ x) : Int) := by
            refine (jpre_lo hor).trans ?_
            show (((if a ||| 2 ^ x = a then _ else _) : Nat) : Int) = _
            rw [if_neg (by omega)]
            show (((if a + 1 ≤ a ||| 2 ^ x then _ else _) : Nat) : Int) = _
            rw [if_pos (by omega)]
          have emk : (mk k w A s0 l0 G m (a ||| 2 ^ x)).testBit x = mr k w A s0 l0 G m (a ||| 2 ^ x) x := by
            unfold mk
            rw [bm_tb]
            have : x < 11 := by omega
            simp [this]
          rw [shl_1 _ (by omega), or_nn a _ (by omega) (by have := p2_le (show x ≤ 10 by omega); omega), c_X5_isMarked _ _ (a ||| 2 ^ x) x _ (by omega) (by omega) (mk_lt _ _ _ _ _ _ _ _) eX2, bI_r, emk]
          cases hmr : mr k w A s0 l0 G m (a ||| 2 ^ x) x with
          | false =>
            refine (if_pos rfl).trans ?_
            rw [same (fun l _ => by unfold hit; rw [hmr]; simp)]
          | true =>
            refine (if_neg (by decide)).trans ?_
            rw [gd_t (by omega), c_ends _ (spX a x) a ha, bI_r, c_near _ (spX a x) x (Or.inr hx), bI_r, gd_t (by omega), eX, and_nn _ _ (by omega) (by have := nra_lt hk w x; omega), or_nn _ _ (by omega) (Nat.lt_of_le_of_lt Nat.and_le_left (by omega))]
            congr 1
            refine (jpre_up ha).trans (jpre_cg (fun s hs => ?_))
            by_cases hsa : s = a
            · rw [if_pos hsa]
              show _ = (((if s = a then _ else _) : Nat) : Int)
              rw [if_pos hsa]
              refine congrArg (fun z : Nat => (z : Int)) ?_
              apply Nat.eq_of_testBit_eq
              intro l
              rw [Nat.testBit_or, Nat.testBit_and, bm_tb, bm_tb]
              show _ = (decide (l < 11) && (G a l || (anb _ x || hit k w A s0 l0 G m a l x)))
              unfold re nra
              rw [bm_tb, if_neg (by omega)]
              have hop : ((opn k w A s0 a).testBit x && rr k w A s0 l0 a l) = rr k w A s0 l0 a l := by
                have := hoo x l hx
                rw [hot, Bool.true_and] at this
                exact this.symm
              have ehit : hit k w A s0 l0 G m a l x = (rr k w A s0 l0 a l && (nr k w x).testBit l) := by
                unfold hit
                rw [hmr, Bool.and_true, ← Bool.and_assoc, hop]
              rw [ehit]
              cases decide (l < 11) <;> simp [Bool.or_assoc]
            · rw [if_neg hsa]
              show (((if s = a then _ else _) : Nat) : Int) = (((if s = a then _ else _) : Nat) : Int)
              rw [if_neg hsa, if_neg hsa]
    · rw [e_X5_lead_2, c_dishes _ (spX a (kn k)), bI_r, if_neg (by omega), stop a ha, w_id (by omega) (by omega)]
      rfl
  have hN1 : μ = M N := (jpre_idm (fun s hs => by
    rw [hm s hs]
    show _ = (((if N ≤ s then _ else _) : Nat) : Int)
    rw [if_neg (by omega)])).symm
  have outer : ∀ j : Nat, j < N - s0 → EV (d + 3) T_X5_lead 1 [some (jR 36), some (jR 29), some (jI (((s0 + (j + 1) : Nat) : Int) - 1)), none, none] [] (M (s0 + (j + 1))) = EV (d + 3) T_X5_lead 1 [some (jR 36), some (jR 29), some (jI (((s0 + j : Nat) : Int) - 1)), none, none] [] (M (s0 + j)) := by
    intro j hj
    have e1 : (((s0 + (j + 1) : Nat) : Int) - 1) = ((s0 + j : Nat) : Int) := by omega
    have hs : s0 + j < N := by omega
    rw [e1, e_X5_lead_1, if_neg (by omega), c_from _ (spM _), bI_r, if_neg (by omega), c_ends _ (spM _) _ hs, bI_r]
    by_cases hz : re k w A s0 l0 (s0 + j) = 0
    · rw [if_pos (by omega)]
      refine inner (s0 + j) hs 0 (by decide) (fun x l hx => ?_)
      have : rr k w A s0 l0 (s0 + j) l = false := by
        cases hr : rr k w A s0 l0 (s0 + j) l with
        | false => rfl
        | true =>
          have hi := rr_in hk h.2.2.1 hr
          have := Sok_10 hk hi.1
          have e2 : (re k w A s0 l0 (s0 + j)).testBit l = true := by
            rw [re_tb (by omega)]
            exact hr
          rw [hz, Nat.zero_testBit] at e2
          cases e2
      rw [this, Bool.and_false, Bool.and_false]
    · rw [if_neg (by omega), c_open _ (spM _) _ hs, bI_r]
      exact inner (s0 + j) hs _ (opn_lt hk w A s0 _) (fun x l _ => rfl)
  refine ⟨M s0, ?_, fun q hq => jpre_ne hq, fun s hs => ?_⟩
  · rw [e_X5_lead, c_sets _ h, bI_r]
    have e1 : w32 (min ((2 ^ kn k : Nat) : Int) 1024 - 1) = ((N : Nat) : Int) - 1 := by
      rw [w_id (by omega) (by omega)]
      omega
    rw [e1]
    have := lp_dn (fun j : Nat => EV (d + 3) T_X5_lead 1 [some (jR 36), some (jR 29), some (jI (((s0 + j : Nat) : Int) - 1)), none, none] [] (M (s0 + j))) (N - s0) outer
    rw [show s0 + (N - s0) = N by omega, ← hN1] at this
    refine this.trans ?_
    show EV (d + 3) T_X5_lead 1 [some (jR 36), some (jR 29), some (jI ((s0 : Int) - 1)), none, none] [] (M s0) = _
    rw [e_X5_lead_1]
    by_cases hz : (s0 : Int) - 1 < 0
    · rw [if_pos hz]
    · rw [if_neg hz, c_from _ (spM _), bI_r, if_pos (by omega)]
  · refine (jpre_lo hs).trans ?_
    show (((if s0 ≤ s then _ else _) : Nat) : Int) = _
    by_cases hle : s0 ≤ s
    · rw [if_pos hle]
    · rw [if_neg hle]
      refine congrArg (fun z : Nat => (z : Int)) (bm_cg (fun l _ => ?_))
      have hr : rr k w A s0 l0 s l = false := by
        cases hr : rr k w A s0 l0 s l with
        | false => rfl
        | true => exact absurd (rr_ge hr) hle
      unfold mr
      rw [hr, Bool.false_and]
      cases hg : G s l with
      | false => rfl
      | true => rw [(hG s l hg).1] at hr; cases hr
