/-! ## the reference finds rows -/
theorem x_isState (d : Nat) (μ : jM) (s j : Nat) (hs : s < 1024) (hj : j ≤ 10) : CL (d + 2) 263 [jI s, jI ((j : Int) - 1)] μ = rI (if ist s (lx j) then 1 else 0) μ := by
  rw [← lno_lx hj]
  exact c_X12_isState d μ s (lx j) hs (lx_le hj (by omega))
theorem x_place (d : Nat) (μ : jM) (s j : Nat) (hs : s < 1024) (hj : j ≤ 10) : CL (d + 1) 260 [jI s, jI ((j : Int) - 1)] μ = rI ((11 * s + lx j : Nat) : Int) μ := by
  rw [← lno_lx hj]
  exact c_X12_place d μ s (lx j) hs (lx_le hj (by omega))
theorem d_place (d : Nat) (μ : jM) (s x : Nat) (hs : s < 1024) (hx : x < 10) : CL (d + 1) 260 [jI s, jI x] μ = rI ((11 * s + x : Nat) : Int) μ := by
  have := c_X12_place d μ s x hs (by omega)
  rw [show lno x = (x : Int) from if_neg (by omega)] at this
  exact this
theorem x_may (d : Nat) {μ : jM} {k : Kt} {w : Lw} (h : KR μ k) (hw : LR μ w) (s j x : Nat) (hj : j ≤ 10) (hs : Stt k s (lx j)) (hx : x < kn k) : CL (d + 4) 262 [jR 69, jI s, jI ((j : Int) - 1), jI x] μ = rI (if may k w s (lx j) x then 1 else 0) μ := by
  rw [← lno_lx hj]
  exact c_X12_may d h hw s (lx j) x hs.1 (Sok_l (ist_S h.1 hs)) hx
theorem jcmp_pos {x : Int} (h : 0 < x) : 0 < jcmp x 0 := by
  unfold jcmp
  rw [if_pos h]
  decide
theorem jcmp_neg {x : Int} (h : ¬ 0 < x) : ¬ 0 < jcmp x 0 := by
  unfold jcmp
  rw [if_neg h]
  split <;> decide
theorem ite_jcmp {α : Type} (x : Int) (a b : α) : (if 0 < jcmp x 0 then a else b) = if 0 < x then a else b := by
  by_cases h : 0 < x
  · rw [if_pos h, if_pos (jcmp_pos h)]
  · rw [if_neg h, if_neg (jcmp_neg h)]
/-- a loop's count of the reference's last ones -/
theorem x_inc (j : Nat) (hj : j ≤ 100) : w32 (((j : Int) - 1) + 1) = ((j + 1 : Nat) : Int) - 1 := by
  rw [w_id (by omega) (by omega)]
  omega
def tF (k : Kt) (w : Lw) (A : Ap) (s0 l0 a m l' : Nat) : Int := if SS k w A s0 a l' m then nwr k w A s0 l0 a l' else 0
def tV (k : Kt) (w : Lw) (A : Ap) (s0 l0 a j x t m : Nat) : Int := if t = s0 then (if m = l0 then 1 else 0) else if decide (m < kn k) && t.testBit m then (if nd t (2 ^ m) < a then nwr k w A s0 l0 t m else if nd t (2 ^ m) = a then sx (tF k w A s0 l0 a m) (if m < x then j + 1 else j) else 0) else 0
theorem tV_cg {k : Kt} {w : Lw} {A : Ap} {s0 l0 a j x j' x' t m : Nat} (h : t ≠ s0 → m < kn k → t.testBit m = true → nd t (2 ^ m) = a → sx (tF k w A s0 l0 a m) (if m < x then j + 1 else j) = sx (tF k w A s0 l0 a m) (if m < x' then j' + 1 else j')) : tV k w A s0 l0 a j x t m = tV k w A s0 l0 a j' x' t m := by
  unfold tV
  by_cases h1 : t = s0
  · rw [if_pos h1, if_pos h1]
  · rw [if_neg h1, if_neg h1]
    cases h2 : (decide (m < kn k) && t.testBit m) with
    | false => rfl
    | true =>
      rw [if_pos rfl, if_pos rfl]
      have h3 := Bool.and_eq_true_iff.mp h2
      by_cases h4 : nd t (2 ^ m) = a
      · have hn : ¬ nd t (2 ^ m) < a := by omega
        rw [if_neg hn, if_pos h4, if_neg hn, if_pos h4]
        exact h h1 (by simpa using h3.1) h3.2 h4
      · by_cases h5 : nd t (2 ^ m) < a
        · rw [if_pos h5, if_pos h5]
        · rw [if_neg h5, if_neg h5, if_neg h4, if_neg h4]
theorem tF_b {k : Kt} (hk : Kok k) {w : Lw} {A : Ap} {s0 l0 : Nat} (h0 : Sok k s0 l0) (a m l' : Nat) : 0 ≤ tF k w A s0 l0 a m l' ∧ tF k w A s0 l0 a m l' ≤ 362880 := by
  unfold tF
  split
  · exact nwr_b hk h0 a l'
  · decide
theorem rr_Stt {k : Kt} (hk : Kok k) {w : Lw} {A : Ap} {s0 l0 : Nat} (h0 : Sok k s0 l0) {s l : Nat} (h : rr k w A s0 l0 s l = true) : Stt k s l := S_ist hk (rr_in hk h0 h).1
theorem nwr_Stt {k : Kt} (hk : Kok k) {w : Lw} {A : Ap} {s0 l0 : Nat} (h0 : Sok k s0 l0) {s l : Nat} (h : ¬ Stt k s l) : nwr k w A s0 l0 s l = 0 := by
  cases hr : rr k w A s0 l0 s l with
  | false => exact nwr_no hr
  | true => exact absurd (rr_Stt hk h0 hr) h
/-- its own row is done -/
theorem tV_own {k : Kt} (hk : Kok k) {w : Lw} {A : Ap} {s0 l0 : Nat} {a l : Nat} (h : Stt k a l) (j x : Nat) : tV k w A s0 l0 a j x a l = nwr k w A s0 l0 a l := by
  unfold tV
  by_cases h1 : a = s0
  · rw [if_pos h1, h1, nwr_0]
  · rw [if_neg h1]
    rcases (ist_S hk h).2 with z | z
    · have := hk.1
      have e : (decide (l < kn k) && a.testBit l) = false := by
        rw [z.2, Nat.zero_testBit, Bool.and_false]
      rw [e, if_neg (by decide)]
      refine (nwr_no ?_).symm
      unfold rr
      rw [z.2, show pc 0 = 0 from rfl, Nat.zero_sub]
      show (0 == s0 && l == l0) = false
      have : (0 == s0) = false := by
        simp
        omega
      rw [this, Bool.false_and]
    · rw [z.2, decide_eq_true z.1]
      rw [Bool.and_self, if_pos rfl, if_pos (nd_lt z.2)]
/-- a set's turn is over -/
theorem tV_end {k : Kt} (hk : Kok k) {w : Lw} {A : Ap} {s0 l0 : Nat} (h0 : Sok k s0 l0) {a t m : Nat} (ht : t < 2 ^ kn k) : tV k w A s0 l0 a (kn k + 1) 0 t m = tV k w A s0 l0 (a + 1) 0 0 t m := by
  unfold tV
  by_cases h1 : t = s0
  · rw [if_pos h1, if_pos h1]
  · rw [if_neg h1, if_neg h1]
    cases h2 : (decide (m < kn k) && t.testBit m) with
    | false => rfl
    | true =>
      rw [if_pos rfl, if_pos rfl]
      have h3 := Bool.and_eq_true_iff.mp h2
      have hm : m < kn k := by simpa using h3.1
      by_cases h4 : nd t (2 ^ m) = a
      · have hb : a.testBit m = false := by
          rw [← h4, nd_tb, Nat.testBit_two_pow]
          simp
        have ha : a < 2 ^ kn k := by
          rw [← h4]
          exact nd_lt2 ht
        have ea : a ||| 2 ^ m = t := by
          rw [← h4]
          exact nd_or h3.2
        rw [if_neg (by omega), if_pos h4, if_neg (Nat.not_lt_zero m), if_pos (by omega)]
        have e := nwr_s (A := A) (w := w) hk h0 ha hm hb (by rw [ea]; exact h1)
        rw [ea] at e
        rw [e]
        refine sx_11 hk.1 (fun i h5 h6 => ?_)
        unfold tF
        rw [nwr_Stt hk h0 (fun z => by rcases z.2.1 with y | y <;> omega)]
        split <;> rfl
      · by_cases h5 : nd t (2 ^ m) < a
        · rw [if_pos h5, if_pos (by omega)]
        · rw [if_neg h5, if_neg h4, if_neg (by omega)]
          by_cases h6 : nd t (2 ^ m) = a + 1
          · rw [if_pos h6, if_neg (Nat.not_lt_zero m)]
            rfl
          · rw [if_neg h6]
theorem c_X12_findRows (d : Nat) {μ : jM} {k : Kt} {w : Lw} {s0 l0 : Nat} (hk : KR μ k) (hw : LR μ w) (h0 : Sok k s0 l0) (sb : Nat) (hsb : sb < 1024) : ∃ μ', CL (d + 5) 267 [jR 69, jI s0, jI (lno l0), jI sb] μ = rV μ' ∧ (∀ q, q ≠ 85 → μ' q = μ q) ∧ ∀ s l, Stt k s l → μ' 85 ((11 * s + l : Nat) : Int) = nwr k w (fun _ x => sb.testBit x) s0 l0 s l := by
  have hko := hk.1
  have h10 := hko.1
  have hN := p2_le h10
  have hs0 := h0.1
  have hl0 := Sok_10 hko h0
  let A : Ap := fun _ x => sb.testBit x
  let T : jM → Nat → Nat → Int := fun μ1 t m => μ1 85 ((11 * t + m : Nat) : Int)
  let J : Nat → Nat → Nat → jM → Prop := fun a j x μ1 => (∀ q, q ≠ 85 → μ1 q = μ q) ∧ ∀ t m, t < 2 ^ kn k → m ≤ 10 → T μ1 t m = tV k w A s0 l0 a j x t m
  have pics : ∀ μ1 : jM, (∀ q, q ≠ 85 → μ1 q = μ q) → KR μ1 k ∧ LR μ1 w := fun μ1 f => ⟨KR_cg hk (fun q _ _ => f q (by omega)) (by rw [f 69 (by decide)]) (by rw [f 69 (by decide)]), LR_cg hw (f 70 (by decide)) (by rw [f 69 (by decide)]) (by rw [f 69 (by decide)]) (by rw [f 69 (by decide)])⟩
  have SSi : ∀ a l x, SS k w A s0 a l x = (decide (x < kn k) && (sb.testBit x && may k w a l x)) := fun a l x => rfl
  -- the inner loop
  have l4 : ∀ a j, a < 2 ^ kn k → j ≤ kn k → ∀ n : Int, n = (if ist a (lx j) then nwr k w A s0 l0 a (lx j) else 0) → ∀ μ1, J a j 0 μ1 → ∃ μ2, EV (d + 4) T_X12_findRows 4 [some (jR 69), none, none, some (jI sb), some (jI a), some (jI ((j : Int) - 1)), some (jL n), none, some (jI 0)] [] μ1 = EV (d + 4) T_X12_findRows 3 [some (jR 69), none, none, some (jI sb), some (jI a), some (jI (((j + 1 : Nat) : Int) - 1)), none, none, none] [] μ2 ∧ J a (j + 1) 0 μ2 := by
    intro a j ha hj n hn μ1 hJ
    have hjx := lx_le hj h10
    have hlx2 : lx j = 10 ∨ lx j < kn k := by
      unfold lx
      split <;> omega
    by_cases hpos : 0 < n
    · -- a state, with rows
      have hist : ist a (lx j) = true := by
        cases hi : ist a (lx j) with
        | true => rfl
        | false => rw [hi, if_neg (by decide)] at hn; omega
      rw [hist, if_pos rfl] at hn
      have hst : Stt k a (lx j) := ⟨ha, hlx2, hist⟩
      have hrr : rr k w A s0 l0 a (lx j) = true := by
        rw [← nwr_rr, ← hn]
        exact decide_eq_true hpos
      have hge := rr_ge hrr
      obtain ⟨μ2, e2, j2⟩ := lp_i (fun (x : Nat) (μ1 : jM) => EV (d + 4) T_X12_findRows 4 [some (jR 69), none, none, some (jI sb), some (jI a), some (jI ((j : Int) - 1)), some (jL n), none, some (jI x)] [] μ1) (fun x μ1 => J a j x μ1) (kn k) (fun x μ1 hx hJ => by
        obtain ⟨hk1, hw1⟩ := pics μ1 hJ.1
        have h2x := p2_le (show x ≤ 10 by omega)
        have stay : SS k w A s0 a (lx j) x = false → J a j (x + 1) μ1 := fun hS => ⟨hJ.1, fun t m ht hm => by
          rw [hJ.2 t m ht hm]
          refine tV_cg (fun _ _ _ _ => ?_)
          by_cases h1 : m = x
          · rw [if_neg (by omega), if_pos (by omega), h1]
            show _ = sx _ j + tF k w A s0 l0 a x (lx j)
            unfold tF
            rw [hS, if_neg (by decide)]
            omega
          · by_cases h2 : m < x
            · rw [if_pos h2, if_pos (by omega)]
            · rw [if_neg h2, if_neg (by omega)]⟩
        show ∃ s', EV (d + 4) T_X12_findRows 4 _ [] μ1 = _ ∧ _
        rw [e_X12_findRows_4, hk1.2.1, if_pos (by omega), ite_jcmp, if_pos hpos, c_X12_has _ _ sb x (by omega) (by omega), bI_r, w_s x (by omega)]
        cases hsx : sb.testBit x with
        | false => exact ⟨μ1, if_pos rfl, stay (by rw [SSi, hsx]; simp)⟩
        | true =>
          rw [if_pos rfl, if_neg (by decide), x_may _ hk1 hw1 a j x (by omega) hst hx, bI_r]
          cases hmy : may k w a (lx j) x with
          | false => exact ⟨μ1, if_pos rfl, stay (by rw [SSi, hmy]; simp)⟩
          | true =>
            have hS : SS k w A s0 a (lx j) x = true := by
              rw [SSi, hsx, hmy]
              simp [hx]
            have hax := may_nb hmy
            have hor := or_lt (k := k) ha hx
            have hgt := or_gt hax
            have hT : T μ1 (a ||| 2 ^ x) x = sx (tF k w A s0 l0 a x) j := by
              rw [hJ.2 _ _ hor (by omega)]
              unfold tV
              have hb2 : (a ||| 2 ^ x).testBit x = true := by simp [Nat.testBit_or, Nat.testBit_two_pow]
              rw [if_neg (by omega), hb2, decide_eq_true hx]
              rw [Bool.and_self, if_pos rfl, or_nd hax, if_neg (by omega), if_pos rfl, if_neg (by omega)]
            have hb := sx_b (tF_b hko h0 (w := w) (A := A) a x) j
            have hnb := nwr_b hko h0 (w := w) (A := A) a (lx j)
            have hjb : (j : Int) * 362880 ≤ 10 * 362880 := by omega
            rw [if_pos rfl, if_neg (by decide), shl_1 _ (by omega), or_nn a _ (by omega) (by omega), d_place _ _ _ x (by omega) (by omega), bI_r, gd_t (by omega), gd_t (by omega)]
            refine ⟨_, rfl, fun q hq => by rw [jup_ne hq]; exact hJ.1 q hq, fun t m ht hm => ?_⟩
            show jup μ1 85 _ (w64 (T μ1 (a ||| 2 ^ x) x + n)) 85 _ = _
            rw [tab_up (by omega) hm, hT, w64_id (by omega) (by omega)]
            by_cases h1 : t = a ||| 2 ^ x ∧ m = x
            · obtain ⟨rfl, rfl⟩ := h1
              rw [if_pos ⟨rfl, rfl⟩]
              unfold tV
              have hb2 : (a ||| 2 ^ m).testBit m = true := by simp [Nat.testBit_or, Nat.testBit_two_pow]
              rw [if_neg (by omega), hb2, decide_eq_true hx]
              rw [Bool.and_self, if_pos rfl, or_nd hax, if_neg (by omega), if_pos rfl, if_pos (by omega)]
              show _ = sx _ j + tF k w A s0 l0 a m (lx j)
              unfold tF
              rw [hS, if_pos rfl, hn]
            · rw [if_neg h1]
              refine (hJ.2 t m ht hm).trans (tV_cg (fun _ _ h5 h6 => ?_))
              have hmx : m ≠ x := fun z => h1 ⟨by rw [← h6, ← z]; exact (nd_or h5).symm, z⟩
              by_cases h2 : m < x
              · rw [if_pos h2, if_pos (by omega)]
              · rw [if_neg h2, if_neg (by omega)]) μ1 hJ
      refine ⟨μ2, e2.trans ?_, j2.1, fun t m ht hm => ?_⟩
      · show EV (d + 4) T_X12_findRows 4 _ [] μ2 = _
        obtain ⟨hk1, hw1⟩ := pics μ2 j2.1
        rw [e_X12_findRows_4, hk1.2.1, if_neg (by omega), x_inc _ (by omega)]
      · rw [j2.2 t m ht hm]
        refine tV_cg (fun _ h2 _ _ => ?_)
        rw [if_pos h2, if_neg (Nat.not_lt_zero m)]
    · -- none
      have hz : nwr k w A s0 l0 a (lx j) = 0 := by
        cases hi : ist a (lx j) with
        | false => exact nwr_Stt hko h0 (fun z => by rw [z.2.2] at hi; cases hi)
        | true =>
          rw [hi, if_pos rfl] at hn
          have := (nwr_b hko h0 (w := w) (A := A) a (lx j)).1
          omega
      obtain ⟨hk1, hw1⟩ := pics μ1 hJ.1
      refine ⟨μ1, ?_, hJ.1, fun t m ht hm => ?_⟩
      · rw [e_X12_findRows_4, hk1.2.1, ite_jcmp, if_neg hpos, x_inc _ (by omega)]
        split <;> rfl
      · rw [hJ.2 t m ht hm]
        refine tV_cg (fun _ h2 _ _ => ?_)
        rw [if_neg (Nat.not_lt_zero m), if_neg (Nat.not_lt_zero m)]
        show _ = sx _ j + tF k w A s0 l0 a m (lx j)
        unfold tF
        rw [hz]
        split <;> omega
  have l3 : ∀ a, a < 2 ^ kn k → ∀ μ1, J a 0 0 μ1 → ∃ μ2, EV (d + 4) T_X12_findRows 3 [some (jR 69), none, none, some (jI sb), some (jI a), some (jI (-1)), none, none, none] [] μ1 = EV (d + 4) T_X12_findRows 2 [some (jR 69), none, none, some (jI sb), some (jI (a + 1 : Nat)), none, none, none, none] [] μ2 ∧ J (a + 1) 0 0 μ2 := by
    intro a ha μ1 hJ
    obtain ⟨μ2, e2, j2⟩ := lp_i (fun (j : Nat) (μ1 : jM) => EV (d + 4) T_X12_findRows 3 [some (jR 69), none, none, some (jI sb), some (jI a), some (jI ((j : Int) - 1)), none, none, none] [] μ1) (fun j μ1 => J a j 0 μ1) (kn k + 1) (fun j μ1 hj hJ => by
      obtain ⟨hk1, hw1⟩ := pics μ1 hJ.1
      obtain ⟨μ2, e2, j2⟩ := l4 a j ha (by omega) _ rfl μ1 hJ
      refine ⟨μ2, Eq.trans ?_ e2, j2⟩
      show EV (d + 4) T_X12_findRows 3 _ [] μ1 = _
      have hjx := lx_le (show j ≤ kn k by omega) h10
      rw [e_X12_findRows_3, hk1.2.1, if_pos (by omega), x_isState _ _ a j (by omega) (by omega), bI_r]
      cases hi : ist a (lx j) with
      | false => rfl
      | true =>
        have hst : Stt k a (lx j) := ⟨ha, by unfold lx; split <;> omega, hi⟩
        rw [if_pos rfl, if_neg (by decide), x_place _ _ a j (by omega) (by omega), bI_r, gd_t (by omega)]
        have : μ1 85 ((11 * a + lx j : Nat) : Int) = nwr k w A s0 l0 a (lx j) := by
          rw [← tV_own hko hst j 0]
          exact hJ.2 a (lx j) ha hjx
        rw [this]
        rfl) μ1 hJ
    refine ⟨μ2, e2.trans ?_, j2.1, fun t m ht hm => by rw [j2.2 t m ht hm]; exact tV_end hko h0 ht⟩
    show EV (d + 4) T_X12_findRows 3 _ [] μ2 = _
    obtain ⟨hk1, hw1⟩ := pics μ2 j2.1
    rw [e_X12_findRows_3, hk1.2.1, if_neg (by omega), w_s a (by omega)]
  let μ0 : jM := jup (jpre μ 85 (fun _ => 0) 11264) 85 ((11 * s0 + l0 : Nat) : Int) 1
  have j0 : J 0 0 0 μ0 := ⟨fun q hq => (jup_ne hq).trans (jpre_ne hq), fun t m ht hm => by
    show jup _ 85 _ 1 85 _ = _
    rw [tab_up hl0 hm, show jpre μ 85 (fun _ => 0) 11264 85 ((11 * t + m : Nat) : Int) = 0 from jpre_lo (by omega)]
    unfold tV
    by_cases h1 : t = s0
    · rw [if_pos h1]
      by_cases h2 : m = l0
      · rw [if_pos ⟨h1, h2⟩, if_pos h2]
      · rw [if_neg (fun z => h2 z.2), if_neg h2]
    · rw [if_neg (fun z => h1 z.1), if_neg h1]
      split
      · rw [if_neg (Nat.not_lt_zero _)]
        split
        · rw [if_neg (Nat.not_lt_zero _)]
          rfl
        · rfl
      · rfl⟩
  obtain ⟨μ2, e2, j2⟩ := lp_i (fun (a : Nat) (μ1 : jM) => EV (d + 4) T_X12_findRows 2 [some (jR 69), none, none, some (jI sb), some (jI a), none, none, none, none] [] μ1) (fun a μ1 => J a 0 0 μ1) (2 ^ kn k) (fun a μ1 ha hJ => by
    obtain ⟨hk1, hw1⟩ := pics μ1 hJ.1
    obtain ⟨μ2, e2, j2⟩ := l3 a ha μ1 hJ
    refine ⟨μ2, Eq.trans ?_ e2, j2⟩
    show EV (d + 4) T_X12_findRows 2 _ [] μ1 = _
    rw [e_X12_findRows_2, c_X12_all _ hk1, bI_r, if_neg (by omega)]) μ0 j0
  have h2p := Nat.two_pow_pos (kn k)
  refine ⟨μ2, ?_, j2.1, fun s l hst => ?_⟩
  · rw [e_X12_findRows]
    refine Eq.trans ?_ ((lp_0 (fun i : Nat => EV (d + 4) T_X12_findRows 1 [some (jR 69), some (jI s0), some (jI (lno l0)), some (jI sb), some (jI i), none, none, none, none] [] (jpre μ 85 (fun _ => 0) i)) 11264 (fun i hi => ?_)).trans ?_)
    · rw [jpre_0]
      rfl
    · rw [e_X12_findRows_1, if_pos (by omega), gd_t (by omega), w_s _ (by omega), jpre_s μ 85 (fun _ => 0) i rfl]
    · rw [e_X12_findRows_1, if_neg (by decide), c_X12_place _ _ s0 l0 (by omega) hl0, bI_r, gd_t (by omega)]
      refine Eq.trans e2 ?_
      show EV (d + 4) T_X12_findRows 2 _ [] μ2 = _
      obtain ⟨hk1, hw1⟩ := pics μ2 j2.1
      rw [e_X12_findRows_2, c_X12_all _ hk1, bI_r, if_pos (by omega)]
  · have hl : l ≤ 10 := Sok_10 hko (ist_S hko hst)
    have e := j2.2 s l hst.1 hl
    refine e.trans ?_
    unfold tV
    by_cases h1 : s = s0
    · rw [if_pos h1, h1, nwr_0]
    · rw [if_neg h1]
      rcases (ist_S hko hst).2 with z | z
      · have e1 : (decide (l < kn k) && s.testBit l) = false := by
          rw [z.2, Nat.zero_testBit, Bool.and_false]
        rw [e1, if_neg (by decide)]
        have := tV_own hko (w := w) (A := A) (s0 := s0) (l0 := l0) hst 0 0
        unfold tV at this
        rw [if_neg h1, e1, if_neg (by decide)] at this
        exact this
      · rw [z.2, decide_eq_true z.1]
        rw [Bool.and_self, if_pos rfl, if_pos (nd_lt2 hst.1)]
