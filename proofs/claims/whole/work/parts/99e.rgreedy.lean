/-! ## greedy: the reference -/
def fG2 (μ' μ : jM) : Prop := (∀ q, q ≠ 69 → q ≠ 90 → q ≠ 91 → μ' q = μ q) ∧ ∀ j : Int, (j < 21 ∨ 29 < j ∨ j = 26 ∨ j = 27) → μ' 69 j = μ 69 j
theorem fG2_r (μ : jM) : fG2 μ μ := ⟨fun _ _ _ _ => rfl, fun _ _ => rfl⟩
theorem fG2_t {μ1 μ2 μ3 : jM} (h1 : fG2 μ2 μ1) (h2 : fG2 μ3 μ2) : fG2 μ3 μ1 := ⟨fun q a b c => (h2.1 q a b c).trans (h1.1 q a b c), fun j a => (h2.2 j a).trans (h1.2 j a)⟩
theorem fG2_J {μ' μ : jM} (f : fJ μ' μ) : fG2 μ' μ := ⟨fun q a _ _ => f.1 q a, f.2⟩
theorem fG2_90 (μ : jM) (i v : Int) : fG2 (jup μ 90 i v) μ := ⟨fun q _ b _ => jup_ne b, fun j _ => jup_nf (by decide)⟩
theorem fG2_91 (μ : jM) (i v : Int) : fG2 (jup μ 91 i v) μ := ⟨fun q _ _ b => jup_ne b, fun j _ => jup_nf (by decide)⟩
theorem fG2_KR {μ' μ : jM} {k : Kt} (f : fG2 μ' μ) (h : KR μ k) : KR μ' k := KR_cg h (fun q _ _ => f.1 q (by omega) (by omega) (by omega)) (f.2 1 (by omega)) (f.2 6 (by omega))
theorem fG2_LR {μ' μ : jM} {w : Lw} (f : fG2 μ' μ) (h : LR μ w) : LR μ' w := LR_cg h (f.1 70 (by decide) (by decide) (by decide)) (f.2 9 (by omega)) (f.2 10 (by omega)) (f.2 11 (by omega))
theorem fG2_SR {μ' μ : jM} {b : List Nat} (f : fG2 μ' μ) (h : SR μ b) : SR μ' b := SR_cg h (f.1 77 (by decide) (by decide) (by decide)) (f.2 13 (by omega))
theorem fG2_TaR {μ' μ : jM} {r : List Nat} (f : fG2 μ' μ) (h : TaR μ r) : TaR μ' r := ⟨h.1, (f.2 27 (by omega)).trans h.2.1, fun i hi => by rw [f.1 82 (by decide) (by decide) (by decide)]; exact h.2.2 i hi⟩
theorem fR_G2 {μ' μ : jM} (f : fG2 μ' μ) : fR μ' μ := ⟨fun q hq => f.1 q (by omega) (by omega) (by omega), fun j hj => f.2 j (by omega)⟩
def GG (μ : jM) (k : Kt) (w : Lw) (r : List Nat) (s l : Nat) : Prop := μ 90 ((11 * s + l : Nat) : Int) = (if (gyr k w r s l true).1 then 1 else 0) ∧ μ 91 ((11 * s + l : Nat) : Int) = (gyr k w r s l true).2 ∧ μ 90 (11264 + ((11 * s + l : Nat) : Int)) = (if (gyr k w r s l false).1 then 1 else 0) ∧ μ 91 (11264 + ((11 * s + l : Nat) : Int)) = (gyr k w r s l false).2
set_option maxRecDepth 200000 in
set_option maxHeartbeats 4000000 in
theorem c_X12_findGreedy (d : Nat) {μ : jM} {k : Kt} {w : Lw} {r : List Nat} (hk : KR μ k) (hw : LR μ w) (hr : TaR μ r) (a j : Nat) (hj : j ≤ kn k) (hst : Stt k a (lx j)) (hT : ∀ x, gS k w a (lx j) x = true → GG μ k w r (a ||| 2 ^ x) x) : ∃ μ', CL (d + 252) 295 [jR 69, jI a, jI ((j : Int) - 1)] μ = rV μ' ∧ fG2 μ' μ ∧ GG μ' k w r a (lx j) ∧ ∀ q (z : Int), (q = 90 ∨ q = 91) → z ≠ ((11 * a + lx j : Nat) : Int) → z ≠ 11264 + ((11 * a + lx j : Nat) : Int) → μ' q z = μ q z := by
  have hko := hk.1
  have h10 := hko.1
  have hN := p2_le h10
  have ha := hst.1
  have hjx := lx_le hj h10
  let P : Nat → Bool := fun x => gS k w a (lx j) x
  let H : Nat → Bool := fun x => (gyr k w r (a ||| 2 ^ x) x true).1
  let m : Nat → Int := fun x => (gyr k w r (a ||| 2 ^ x) x true).2
  let f : Nat → Int := fun x => -(jall k r x)
  let Q : Nat → Bool := fun x => P x && H x
  let i0 : Int := ((11 * a + lx j : Nat) : Int)
  let Mo : Nat → Int := fun n => if lfo P f n = 10 then 0 else jall k r (lfo P f n)
  have hi0 : 0 ≤ i0 ∧ i0 < 11264 := by
    show 0 ≤ ((11 * a + lx j : Nat) : Int) ∧ ((11 * a + lx j : Nat) : Int) < 11264
    omega
  have hSm : ∀ x, x < kn k → may k w a (lx j) x = P x := fun x hx => by
    show _ = SS k w (fun _ _ => true) 0 a (lx j) x
    unfold SS stp
    rw [decide_eq_true hx]
    simp
  have nxt : ∀ x, P x = true → a ||| 2 ^ x < 2 ^ kn k ∧ a < a ||| 2 ^ x ∧ x < kn k := fun x hx => ⟨(SS_stt hko ha hx).1.1, or_gt (SS_i hx).2.2.2, (SS_i hx).1⟩
  have mb : ∀ x, P x = true → 0 ≤ m x ∧ m x ≤ 10 := fun x hx => by
    have := gyr_b hko w r (nxt x hx).1 x true
    show 0 ≤ (gyr k w r (a ||| 2 ^ x) x true).2 ∧ (gyr k w r (a ||| 2 ^ x) x true).2 ≤ 10
    omega
  -- the first loop
  have l1 : ∀ (x : Nat) (n : jM), x < kn k → fJ n μ → ∃ n', EV (d + 251) T_X12_findGreedy 1 [some (jR 69), some (jI a), some (jI ((j : Int) - 1)), some (jI i0), some (jI (lno (lfo P f x))), some (jI (Mo x)), some (jI (if anb P x then 1 else 0)), some (jI (if anb Q x then 1 else 0)), some (jI x), none, none, none, none] [] n = EV (d + 251) T_X12_findGreedy 1 [some (jR 69), some (jI a), some (jI ((j : Int) - 1)), some (jI i0), some (jI (lno (lfo P f (x + 1)))), some (jI (Mo (x + 1))), some (jI (if anb P (x + 1) then 1 else 0)), some (jI (if anb Q (x + 1) then 1 else 0)), some (jI ((x + 1 : Nat) : Int)), none, none, none, none] [] n' ∧ fJ n' μ := by
    intro x n hx fn
    have k1 := fJ_KR fn hk
    have w1 := fJ_LR fn hw
    have r1 := fJ_TaR fn hr
    have h2x := p2_le (show x ≤ 10 by omega)
    have ea : anb P (x + 1) = (anb P x || P x) := rfl
    have es : anb Q (x + 1) = (anb Q x || (P x && H x)) := rfl
    have el : lfo P f (x + 1) = if P x && (lfo P f x == 10 || decide (f x < f (lfo P f x))) then x else lfo P f x := rfl
    have hxk : (x : Int) < n 69 1 := by
      rw [k1.2.1]
      omega
    rw [e_X12_findGreedy_1, if_pos hxk, x_may _ k1 w1 a j x (by omega) hst hx, bI_r, hSm x hx]
    cases hP : P x with
    | false =>
      have eB : lfo P f (x + 1) = lfo P f x := by rw [el, hP, Bool.false_and, if_neg (by decide)]
      have eM : Mo (x + 1) = Mo x := by
        show (if lfo P f (x + 1) = 10 then 0 else jall k r (lfo P f (x + 1))) = (if lfo P f x = 10 then 0 else jall k r (lfo P f x))
        rw [eB]
      refine ⟨n, ?_, fn⟩
      rw [z_f, e_X12_findGreedy_4, w_s x (by omega), ea, es, hP, Bool.false_and, Bool.or_false, Bool.or_false, eB, eM]
    | true =>
      obtain ⟨n1, n2, n3⟩ := nxt x hP
      obtain ⟨l1, l2⟩ := lfo_spec P f x (by omega)
      obtain ⟨n2', e2, f2⟩ := c_X12_joyOfAll d k1 r1 x hx
      have hv90 : n 90 ((11 * (a ||| 2 ^ x) + x : Nat) : Int) = if H x then 1 else 0 := by
        rw [fn.1 90 (by decide)]
        exact (hT x hP).1
      have fin : ∀ (s : Int), (if lno (lfo P f x) = (-1) then EV (d + 251) T_X12_findGreedy 3 [some (jR 69), some (jI a), some (jI ((j : Int) - 1)), some (jI i0), none, none, some (jI 1), some (jI s), some (jI x), some (jI (jall k r x)), none, none, none] [] n2' else if Mo x < jall k r x then EV (d + 251) T_X12_findGreedy 3 [some (jR 69), some (jI a), some (jI ((j : Int) - 1)), some (jI i0), none, none, some (jI 1), some (jI s), some (jI x), some (jI (jall k r x)), none, none, none] [] n2' else EV (d + 251) T_X12_findGreedy 4 [some (jR 69), some (jI a), some (jI ((j : Int) - 1)), some (jI i0), some (jI (lno (lfo P f x))), some (jI (Mo x)), some (jI 1), some (jI s), some (jI x), none, none, none, none] [] n2') = EV (d + 251) T_X12_findGreedy 1 [some (jR 69), some (jI a), some (jI ((j : Int) - 1)), some (jI i0), some (jI (lno (lfo P f (x + 1)))), some (jI (Mo (x + 1))), some (jI 1), some (jI s), some (jI ((x + 1 : Nat) : Int)), none, none, none, none] [] n2' := fun s => by
        have take : lfo P f (x + 1) = x → EV (d + 251) T_X12_findGreedy 3 [some (jR 69), some (jI a), some (jI ((j : Int) - 1)), some (jI i0), none, none, some (jI 1), some (jI s), some (jI x), some (jI (jall k r x)), none, none, none] [] n2' = EV (d + 251) T_X12_findGreedy 1 [some (jR 69), some (jI a), some (jI ((j : Int) - 1)), some (jI i0), some (jI (lno (lfo P f (x + 1)))), some (jI (Mo (x + 1))), some (jI 1), some (jI s), some (jI ((x + 1 : Nat) : Int)), none, none, none, none] [] n2' := fun hz => by
          have eM : Mo (x + 1) = jall k r x := by
            show (if lfo P f (x + 1) = 10 then 0 else jall k r (lfo P f (x + 1))) = _
            rw [hz, if_neg (by omega)]
          rw [e_X12_findGreedy_3, e_X12_findGreedy_4, w_s x (by omega), eM, hz, show lno x = (x : Int) from if_neg (by omega)]
        by_cases h10 : lfo P f x = 10
        · have e10 : (lfo P f x == 10) = true := by simpa using h10
          rw [if_pos (show lno (lfo P f x) = -1 by rw [h10]; rfl)]
          exact take (by rw [el, hP, Bool.true_and, e10, Bool.true_or, if_pos rfl])
        · have e10 : (lfo P f x == 10) = false := by simpa using h10
          have hM : Mo x = jall k r (lfo P f x) := if_neg h10
          have hff : f x < f (lfo P f x) ↔ Mo x < jall k r x := by
            rw [hM]
            show -(jall k r x) < -(jall k r (lfo P f x)) ↔ _
            omega
          have hno : ¬ lno (lfo P f x) = -1 := by
            rw [show lno (lfo P f x) = ((lfo P f x : Nat) : Int) from if_neg h10]
            omega
          rw [if_neg hno]
          by_cases hlt : Mo x < jall k r x
          · rw [if_pos hlt]
            exact take (by rw [el, hP, Bool.true_and, e10, Bool.false_or, decide_eq_true (hff.mpr hlt), if_pos rfl])
          · have eB : lfo P f (x + 1) = lfo P f x := by rw [el, hP, Bool.true_and, e10, Bool.false_or, decide_eq_false (fun z => hlt (hff.mp z)), if_neg (by decide)]
            have eM : Mo (x + 1) = Mo x := by
              show (if lfo P f (x + 1) = 10 then 0 else jall k r (lfo P f (x + 1))) = (if lfo P f x = 10 then 0 else jall k r (lfo P f x))
              rw [eB]
            rw [if_neg hlt, e_X12_findGreedy_4, w_s x (by omega), eB, eM]
      have two : EV (d + 251) T_X12_findGreedy 2 [some (jR 69), some (jI a), some (jI ((j : Int) - 1)), some (jI i0), some (jI (lno (lfo P f x))), some (jI (Mo x)), some (jI 1), none, some (jI x), none, none, none, none] [] n = EV (d + 251) T_X12_findGreedy 1 [some (jR 69), some (jI a), some (jI ((j : Int) - 1)), some (jI i0), some (jI (lno (lfo P f (x + 1)))), some (jI (Mo (x + 1))), some (jI 1), some (jI 1), some (jI ((x + 1 : Nat) : Int)), none, none, none, none] [] n2' := by
        rw [e_X12_findGreedy_2, e2, bI_r]
        exact fin 1
      have ea1 : anb P (x + 1) = true := by rw [ea, hP, Bool.or_true]
      refine ⟨n2', ?_, fJ_t fn f2⟩
      rw [z_t, ea1]
      cases hs : anb Q x with
      | true =>
        have es1 : anb Q (x + 1) = true := by rw [es, hs, Bool.true_or]
        rw [z_t, es1]
        exact two
      | false =>
        rw [z_f, shl_1 _ (by omega), or_nn a _ (by omega) (by omega), d_place _ _ _ x (by omega) (by omega), bI_r, gd_t (by omega), hv90]
        cases hH : H x with
        | true =>
          have es1 : anb Q (x + 1) = true := by rw [es, hs, hP, hH]; rfl
          rw [z_t, es1]
          exact two
        | false =>
          have es1 : anb Q (x + 1) = false := by rw [es, hs, hP, hH]; rfl
          rw [z_f, es1, e2, bI_r]
          exact fin 0
  obtain ⟨n, e1, fn⟩ := lp_i (fun (x : Nat) (n : jM) => EV (d + 251) T_X12_findGreedy 1 [some (jR 69), some (jI a), some (jI ((j : Int) - 1)), some (jI i0), some (jI (lno (lfo P f x))), some (jI (Mo x)), some (jI (if anb P x then 1 else 0)), some (jI (if anb Q x then 1 else 0)), some (jI x), none, none, none, none] [] n) (fun _ n => fJ n μ) (kn k) (fun x n hx hn => l1 x n hx hn) μ (fJ_r μ)
  have fn : fJ n μ := fn
  have e1 : EV (d + 251) T_X12_findGreedy 1 [some (jR 69), some (jI a), some (jI ((j : Int) - 1)), some (jI i0), some (jI (-1)), some (jI 0), some (jI 0), some (jI 0), some (jI 0), none, none, none, none] [] μ = EV (d + 251) T_X12_findGreedy 1 [some (jR 69), some (jI a), some (jI ((j : Int) - 1)), some (jI i0), some (jI (lno (lfo P f (kn k)))), some (jI (Mo (kn k))), some (jI (if anb P (kn k) then 1 else 0)), some (jI (if anb Q (kn k) then 1 else 0)), some (jI (kn k)), none, none, none, none] [] n := e1
  have k1 := fJ_KR fn hk
  have w1 := fJ_LR fn hw
  have hkk : ¬ ((kn k : Nat) : Int) < n 69 1 := by
    rw [k1.2.1]
    omega
  have eq0 : lfo P f (kn k) = gq k w r a (lx j) := (lfo_hi h10 (fun i h1 _ => gS_hi h1)).symm
  have ef := gyr_f hko w r (l := lx j) ha
  have et := gyr_t hko w r (l := lx j) ha
  have efs : (gyr k w r a (lx j) false).1 = anb Q (kn k) := by rw [ef]
  have hw2 : w32 (11264 + i0) = 11264 + i0 := w_id (by omega) (by omega)
  let M4 : jM := jup (jup (jup n 90 i0 (if (gyr k w r a (lx j) true).1 then 1 else 0)) 91 i0 (gyr k w r a (lx j) true).2) 90 (11264 + i0) (if anb Q (kn k) then 1 else 0)
  have mid : CL (d + 252) 295 [jR 69, jI a, jI ((j : Int) - 1)] μ = EV (d + 251) T_X12_findGreedy 5 [some (jR 69), some (jI a), some (jI ((j : Int) - 1)), some (jI i0), none, none, none, some (jI (if anb Q (kn k) then 1 else 0)), none, some (jI 0), some (jI 1), some (jI 0), none] [] M4 := by
    rw [e_X12_findGreedy, x_place _ _ a j (by omega) (by omega), bI_r]
    refine Eq.trans e1 ?_
    rw [e_X12_findGreedy_1, if_neg hkk, eq0]
    by_cases hq : gq k w r a (lx j) = 10
    · have hPa : anb P (kn k) = false := by
        cases hz : anb P (kn k) with
        | false => rfl
        | true =>
          have := ((lfo_spec P f (kn k) h10).2 hz).1
          omega
      have hQa : anb Q (kn k) = false := by
        cases hz : anb Q (kn k) with
        | false => rfl
        | true =>
          obtain ⟨i, i1, i2⟩ := anb_iff.mp hz
          have := anb_f hPa i1
          have i2 : (P i && H i) = true := i2
          rw [this] at i2
          cases i2
      have e4 : M4 = jup (jup (jup n 90 i0 1) 91 i0 0) 90 (11264 + i0) 0 := by
        show jup (jup (jup n 90 i0 (if (gyr k w r a (lx j) true).1 then 1 else 0)) 91 i0 (gyr k w r a (lx j) true).2) 90 (11264 + i0) (if anb Q (kn k) then 1 else 0) = _
        rw [et, if_pos hq, hQa]
        rfl
      rw [hq, show lno 10 = -1 from rfl, if_pos rfl, if_pos rfl, gd_t (by omega), gd_t (by decide), if_pos rfl, gd_t (by omega), hPa, z_f, hw2, gd_t (by omega), gd_t (by decide), e4]
    · obtain ⟨q1, q2⟩ := gq_i hq
      obtain ⟨n1, n2, n3⟩ := nxt _ q2
      obtain ⟨g1, g2, g3, g4⟩ := hT _ q2
      have hPa : anb P (kn k) = true := anb_iff.mpr ⟨_, n3, q2⟩
      have hno : ¬ lno (gq k w r a (lx j)) = -1 := by
        rw [show lno (gq k w r a (lx j)) = ((gq k w r a (lx j) : Nat) : Int) from if_neg hq]
        omega
      have hno2 : ¬ ((gq k w r a (lx j) : Nat) : Int) = -1 := by omega
      have h2x := p2_le (show gq k w r a (lx j) ≤ 10 by omega)
      obtain ⟨ip, hipe⟩ : ∃ ip : Int, ip = ((11 * (a ||| 2 ^ gq k w r a (lx j)) + gq k w r a (lx j) : Nat) : Int) := ⟨_, rfl⟩
      have hip : 0 ≤ ip ∧ ip < 11264 := by
        rw [hipe]
        omega
      have hpl : ∀ d, CL (d + 1) 260 [jI ((a ||| 2 ^ gq k w r a (lx j) : Nat) : Int), jI (gq k w r a (lx j) : Nat)] n = rI ip n := fun d => by
        rw [hipe]
        exact d_place d n _ _ (by omega) (by omega)
      have hsx : jor (a : Int) (jshl 1 (gq k w r a (lx j) : Nat)) = ((a ||| 2 ^ gq k w r a (lx j) : Nat) : Int) := by
        rw [shl_1 _ (by omega), or_nn a _ (by omega) (by omega)]
      have hwp : w32 (11264 + ip) = 11264 + ip := w_id (by omega) (by omega)
      have v90 : n 90 (11264 + ip) = if (gyr k w r (a ||| 2 ^ gq k w r a (lx j)) (gq k w r a (lx j)) false).1 then 1 else 0 := by
        rw [fn.1 90 (by decide), hipe]
        exact g3
      have v91 : ∀ z, jup n 90 i0 z 91 (11264 + ip) = (gyr k w r (a ||| 2 ^ gq k w r a (lx j)) (gq k w r a (lx j)) false).2 := fun z => by
        rw [jup_nf (by decide), fn.1 91 (by decide), hipe]
        exact g4
      have hmb := gyr_b hko w r n1 (gq k w r a (lx j)) false
      have hw3 : w32 ((gyr k w r (a ||| 2 ^ gq k w r a (lx j)) (gq k w r a (lx j)) false).2 + 1) = (gyr k w r (a ||| 2 ^ gq k w r a (lx j)) (gq k w r a (lx j)) false).2 + 1 := w_id (by omega) (by omega)
      have e4 : M4 = jup (jup (jup n 90 i0 (if (gyr k w r (a ||| 2 ^ gq k w r a (lx j)) (gq k w r a (lx j)) false).1 then 1 else 0)) 91 i0 ((gyr k w r (a ||| 2 ^ gq k w r a (lx j)) (gq k w r a (lx j)) false).2 + 1)) 90 (11264 + i0) (if anb Q (kn k) then 1 else 0) := by
        show jup (jup (jup n 90 i0 (if (gyr k w r a (lx j) true).1 then 1 else 0)) 91 i0 (gyr k w r a (lx j) true).2) 90 (11264 + i0) (if anb Q (kn k) then 1 else 0) = _
        rw [et, if_neg hq]
      have hg0 : (0 : Int) ≤ w32 (11264 + ip) ∧ w32 (11264 + ip) < 22528 := by
        rw [hwp]
        omega
      have hg1 : (0 : Int) ≤ i0 ∧ i0 < 22528 := ⟨hi0.1, by omega⟩
      have hg2 : (0 : Int) ≤ w32 (11264 + i0) ∧ w32 (11264 + i0) < 22528 := by
        rw [hw2]
        omega
      rw [if_neg hno, show lno (gq k w r a (lx j)) = ((gq k w r a (lx j) : Nat) : Int) from if_neg hq, hsx, hpl, bI_r, if_neg hno2, gd_t hg0]
      rw [hwp, v90, hPa, e4]
      cases hs : (gyr k w r (a ||| 2 ^ gq k w r a (lx j)) (gq k w r a (lx j)) false).1 with
      | false =>
        rw [z_f, gd_t hg1, gd_t (by decide), if_neg hno2, ← hwp, gd_t hg0, gd_t hg1, z_t, hwp, v91, hw3, gd_t hg2, hw2]
        cases hQa : anb Q (kn k) with
        | false =>
          rw [z_f, gd_t (by decide)]
          rfl
        | true =>
          rw [z_t, gd_t (by omega), gd_t (by decide)]
          rfl
      | true =>
        rw [z_t, gd_t hg1, gd_t (by decide), if_neg hno2, ← hwp, gd_t hg0, gd_t hg1, z_t, hwp, v91, hw3, gd_t hg2, hw2]
        cases hQa : anb Q (kn k) with
        | false =>
          rw [z_f, gd_t (by decide)]
          rfl
        | true =>
          rw [z_t, gd_t (by omega), gd_t (by decide)]
          rfl
  have f4 : fG2 M4 μ := fG2_t (fG2_J fn) (fG2_t (fG2_90 n _ _) (fG2_t (fG2_91 _ _ _) (fG2_90 _ _ _)))
  have k4 := fG2_KR f4 hk
  have w4 := fG2_LR f4 hw
  have o90 : ∀ z : Int, z ≠ i0 → z ≠ 11264 + i0 → M4 90 z = μ 90 z := fun z h1 h2 => by
    show jup (jup (jup n 90 i0 _) 91 i0 _) 90 (11264 + i0) _ 90 z = _
    rw [jup_m h2, jup_nf (by decide), jup_m h1, fn.1 90 (by decide)]
  have o91 : ∀ z : Int, z ≠ i0 → M4 91 z = μ 91 z := fun z h1 => by
    show jup (jup (jup n 90 i0 _) 91 i0 _) 90 (11264 + i0) _ 91 z = _
    rw [jup_nf (by decide), jup_m h1, jup_nf (by decide), fn.1 91 (by decide)]
  -- the second loop
  let sb : Bool := anb Q (kn k)
  have gb : ∀ x, 0 ≤ (gsc P H m sb x).1 ∧ (gsc P H m sb x).1 ≤ 11 := fun x => gsc_b (by decide) (fun x hx => by have := mb x hx; omega) x
  have l5 : ∀ x : Nat, x < kn k → EV (d + 251) T_X12_findGreedy 5 [some (jR 69), some (jI a), some (jI ((j : Int) - 1)), some (jI i0), none, none, none, some (jI (if sb then 1 else 0)), none, some (jI (gsc P H m sb x).1), some (jI (if (gsc P H m sb x).2 then 1 else 0)), some (jI x), none] [] M4 = EV (d + 251) T_X12_findGreedy 5 [some (jR 69), some (jI a), some (jI ((j : Int) - 1)), some (jI i0), none, none, none, some (jI (if sb then 1 else 0)), none, some (jI (gsc P H m sb (x + 1)).1), some (jI (if (gsc P H m sb (x + 1)).2 then 1 else 0)), some (jI ((x + 1 : Nat) : Int)), none] [] M4 := by
    intro x hx
    have h2x := p2_le (show x ≤ 10 by omega)
    have hxk : (x : Int) < M4 69 1 := by
      rw [k4.2.1]
      omega
    rw [e_X12_findGreedy_5, if_pos hxk, x_may _ k4 w4 a j x (by omega) hst hx, bI_r, hSm x hx, gsc_s]
    cases hP : P x with
    | false =>
      rw [z_f, e_X12_findGreedy_6, w_s x (by omega)]
      rfl
    | true =>
      obtain ⟨n1, n2, n3⟩ := nxt x hP
      obtain ⟨g1, g2, g3, g4⟩ := hT x hP
      have hmb := mb x hP
      have hne : ((11 * (a ||| 2 ^ x) + x : Nat) : Int) ≠ i0 := by
        show ((11 * (a ||| 2 ^ x) + x : Nat) : Int) ≠ ((11 * a + lx j : Nat) : Int)
        omega
      have v90 : M4 90 ((11 * (a ||| 2 ^ x) + x : Nat) : Int) = if H x then 1 else 0 := (o90 _ hne (by omega)).trans g1
      have v91 : M4 91 ((11 * (a ||| 2 ^ x) + x : Nat) : Int) = m x := (o91 _ hne).trans g2
      have hgb := gb x
      rw [z_t, shl_1 _ (by omega), or_nn a _ (by omega) (by omega), d_place _ _ _ x (by omega) (by omega), bI_r, gd_t (by omega), v90, d_place _ _ _ x (by omega) (by omega), bI_r, gd_t (by omega), v91, w_id (x := m x + 1) (by omega) (by omega), Bool.true_and]
      cases hs : sb with
      | false =>
        rw [hs] at hgb
        cases hH : H x with
        | true =>
          rw [if_neg (by decide), if_neg (show ¬ ((true == false) = true) by decide), e_X12_findGreedy_6, w_s x (by omega)]
        | false =>
          rw [if_pos rfl, if_pos (show (false == false) = true from rfl)]
          cases h2 : (gsc P H m false x).2 with
          | false =>
            rw [z_f, z_f, e_X12_findGreedy_6, w_s x (by omega)]
            rfl
          | true =>
            rw [z_t, e_X12_findGreedy_6, w_s x (by omega)]
            rfl
      | true =>
        rw [hs] at hgb
        cases hH : H x with
        | false =>
          rw [if_neg (by decide), if_neg (show ¬ ((false == true) = true) by decide), e_X12_findGreedy_6, w_s x (by omega)]
        | true =>
          rw [if_pos rfl, if_pos (show (true == true) = true from rfl)]
          cases h2 : (gsc P H m true x).2 with
          | false =>
            rw [z_f, z_t, e_X12_findGreedy_6, w_s x (by omega)]
            rfl
          | true =>
            rw [z_t, e_X12_findGreedy_6, w_s x (by omega)]
            rfl
  have e5 := lp_0 (fun x : Nat => EV (d + 251) T_X12_findGreedy 5 [some (jR 69), some (jI a), some (jI ((j : Int) - 1)), some (jI i0), none, none, none, some (jI (if sb then 1 else 0)), none, some (jI (gsc P H m sb x).1), some (jI (if (gsc P H m sb x).2 then 1 else 0)), some (jI x), none] [] M4) (kn k) l5
  have e5 : EV (d + 251) T_X12_findGreedy 5 [some (jR 69), some (jI a), some (jI ((j : Int) - 1)), some (jI i0), none, none, none, some (jI (if anb Q (kn k) then 1 else 0)), none, some (jI 0), some (jI 1), some (jI 0), none] [] M4 = EV (d + 251) T_X12_findGreedy 5 [some (jR 69), some (jI a), some (jI ((j : Int) - 1)), some (jI i0), none, none, none, some (jI (if sb then 1 else 0)), none, some (jI (gsc P H m sb (kn k)).1), some (jI (if (gsc P H m sb (kn k)).2 then 1 else 0)), some (jI (kn k)), none] [] M4 := e5
  have hkk4 : ¬ ((kn k : Nat) : Int) < M4 69 1 := by
    rw [k4.2.1]
    omega
  have efm : (gyr k w r a (lx j) false).2 = (gsc P H m sb (kn k)).1 := by rw [ef]
  refine ⟨jup M4 91 (11264 + i0) (gsc P H m sb (kn k)).1, ?_, fG2_t f4 (fG2_91 _ _ _), ⟨?_, ?_, ?_, ?_⟩, fun q z hq h1 h2 => ?_⟩
  · rw [mid]
    refine Eq.trans e5 ?_
    rw [e_X12_findGreedy_5, if_neg hkk4, hw2, gd_t (by omega)]
  · show jup M4 91 (11264 + i0) _ 90 i0 = _
    rw [jup_nf (by decide)]
    show jup (jup (jup n 90 i0 _) 91 i0 _) 90 (11264 + i0) _ 90 i0 = _
    rw [jup_m (by omega), jup_nf (by decide)]
    exact jup_r _ _ _ _
  · show jup M4 91 (11264 + i0) _ 91 i0 = _
    rw [jup_m (by omega)]
    show jup (jup (jup n 90 i0 _) 91 i0 _) 90 (11264 + i0) _ 91 i0 = _
    rw [jup_nf (by decide)]
    exact jup_r _ _ _ _
  · show jup M4 91 (11264 + i0) _ 90 (11264 + i0) = _
    rw [jup_nf (by decide), efs]
    exact jup_r _ _ _ _
  · rw [efm]
    exact jup_r _ _ _ _
  · rcases hq with rfl | rfl
    · rw [jup_nf (by decide)]
      exact o90 z h1 h2
    · rw [jup_m h2]
      exact o91 z h1
theorem c_X12_greedy (d : Nat) {μ : jM} {k : Kt} {w : Lw} {b : List Nat} {r : List Nat} (hk : KR μ k) (hw : LR μ w) (hb : SR μ b) (hbk : Bok (kn k) b) (hr : TaR μ r) : ∃ μ', CL (d + 253) 296 [jR 69] μ = rI (if (gyr k w r (bset b) (bla b) true).1 then 1 else 0) μ' ∧ fR μ' μ ∧ RR μ' [(gyr k w r (bset b) (bla b) true).2] := by
  have hko := hk.1
  have h10 := hko.1
  have hN := p2_le h10
  have hS0 := Sok_b hbk
  have hs0 := hS0.1
  have hl0 := Sok_10 hko hS0
  have hk0 := th0_KR hk
  have hw0 := th0_LR hw
  have hb0 := th0_SR hb
  have hr0 := th0_TaR hr
  let μ0 : jM := jup μ 69 20 0
  let J : Nat → Nat → jM → Prop := fun a j μ1 => fG2 μ1 μ0 ∧ ∀ s l, Stt k s l → (a < s ∨ s = a ∧ ∃ j', j' < j ∧ l = lx j') → GG μ1 k w r s l
  have l2 : ∀ a, a < 2 ^ kn k → ∀ μ1, J a 0 μ1 → ∃ μ2, EV (d + 252) T_X12_greedy 2 [some (jR 69), some (jI a), some (jI (-1))] [] μ1 = EV (d + 252) T_X12_greedy 1 [some (jR 69), some (jI ((a : Int) - 1)), none] [] μ2 ∧ J a (kn k + 1) μ2 := by
    intro a ha μ1 hJ
    obtain ⟨μ2, e2, j2⟩ := lp_i (fun (j : Nat) (μ1 : jM) => EV (d + 252) T_X12_greedy 2 [some (jR 69), some (jI a), some (jI ((j : Int) - 1))] [] μ1) (fun j μ1 => J a j μ1) (kn k + 1) (fun j μ1 hj hJ => by
      have hk1 := fG2_KR hJ.1 hk0
      have hw1 := fG2_LR hJ.1 hw0
      have hr1 := fG2_TaR hJ.1 hr0
      have hjx := lx_le (show j ≤ kn k by omega) h10
      show ∃ s', EV (d + 252) T_X12_greedy 2 [some (jR 69), some (jI a), some (jI ((j : Int) - 1))] [] μ1 = _ ∧ _
      rw [e_X12_greedy_2, hk1.2.1, if_pos (by omega), x_isState _ _ a j (by omega) (by omega), bI_r]
      cases hi : ist a (lx j) with
      | false =>
        rw [z_f, x_inc _ (by omega)]
        refine ⟨μ1, rfl, hJ.1, fun s l hs hc => hJ.2 s l hs ?_⟩
        rcases hc with z | ⟨z, j', z2, z3⟩
        · exact Or.inl z
        · refine Or.inr ⟨z, j', ?_, z3⟩
          by_cases hjj : j' = j
          · rw [hjj] at z3
            have h5 := hs.2.2
            rw [z, z3, hi] at h5
            cases h5
          · omega
      | true =>
        have hst : Stt k a (lx j) := ⟨ha, lx_kn hj, hi⟩
        have hjk : j ≤ kn k := by omega
        obtain ⟨μ3, e3, f3, g3, o3⟩ := c_X12_findGreedy d hk1 hw1 hr1 a j hjk hst (fun x hx => hJ.2 _ _ (SS_stt hko ha hx).1 (Or.inl (or_gt (SS_i hx).2.2.2)))
        rw [z_t, e3, bV_r, x_inc _ (by omega)]
        refine ⟨μ3, rfl, fG2_t hJ.1 f3, fun s l hs hc => ?_⟩
        have hl := Sok_10 hko (ist_S hko hs)
        have hs1 := hs.1
        by_cases h1 : s = a ∧ l = lx j
        · obtain ⟨rfl, rfl⟩ := h1
          exact g3
        · have hne : ((11 * s + l : Nat) : Int) ≠ ((11 * a + lx j : Nat) : Int) := by omega
          obtain ⟨g1, g2, g4, g5⟩ := hJ.2 s l hs (by
            rcases hc with z | ⟨z, j', z2, z3⟩
            · exact Or.inl z
            · refine Or.inr ⟨z, j', ?_, z3⟩
              by_cases hjj : j' = j
              · rw [hjj] at z3
                exact absurd ⟨z, z3⟩ h1
              · omega)
          refine ⟨?_, ?_, ?_, ?_⟩
          · rw [o3 90 _ (Or.inl rfl) hne (by omega)]
            exact g1
          · rw [o3 91 _ (Or.inr rfl) hne (by omega)]
            exact g2
          · rw [o3 90 _ (Or.inl rfl) (by omega) (by omega)]
            exact g4
          · rw [o3 91 _ (Or.inr rfl) (by omega) (by omega)]
            exact g5) μ1 hJ
    have j2 : J a (kn k + 1) μ2 := j2
    refine ⟨μ2, e2.trans ?_, j2⟩
    show EV (d + 252) T_X12_greedy 2 [some (jR 69), some (jI a), some (jI (((kn k + 1 : Nat) : Int) - 1))] [] μ2 = _
    have hk1 := fG2_KR j2.1 hk0
    rw [e_X12_greedy_2, hk1.2.1, if_neg (by omega), w_id (by omega) (by omega)]
    rfl
  obtain ⟨μ2, e2, j2⟩ := lp_j (fun (i : Nat) (μ1 : jM) => EV (d + 252) T_X12_greedy 1 [some (jR 69), some (jI ((i : Int) - 1)), none] [] μ1) (fun i μ1 => fG2 μ1 μ0 ∧ ∀ s l, Stt k s l → i ≤ s → GG μ1 k w r s l) (2 ^ kn k) (fun a μ1 ha hI => by
    obtain ⟨μ2, e2, j2⟩ := l2 a ha μ1 ⟨hI.1, fun s l hs hc => hI.2 s l hs (by
      rcases hc with z | ⟨_, j', z2, _⟩
      · omega
      · omega)⟩
    refine ⟨μ2, Eq.trans ?_ e2, j2.1, fun s l hs hc => j2.2 s l hs ?_⟩
    · show EV (d + 252) T_X12_greedy 1 [some (jR 69), some (jI (((a + 1 : Nat) : Int) - 1)), none] [] μ1 = _
      have e1 : ((a + 1 : Nat) : Int) - 1 = (a : Int) := by omega
      rw [e1, e_X12_greedy_1, if_neg (by omega)]
    · by_cases h1 : s = a
      · refine Or.inr ⟨h1, ?_⟩
        rcases hs.2.1 with z | z
        · exact ⟨0, by omega, by rw [z]; rfl⟩
        · exact ⟨l + 1, by omega, (lx_s l).symm⟩
      · exact Or.inl (by omega)) μ0 ⟨fG2_r μ0, fun s l hs hc => by have := hs.1; omega⟩
  have f2 : fG2 μ2 μ0 := j2.1
  have t2 : ∀ s l, Stt k s l → GG μ2 k w r s l := fun s l hs => j2.2 s l hs (Nat.zero_le s)
  have h2p := Nat.two_pow_pos (kn k)
  have b2 := fG2_SR f2 hb0
  obtain ⟨v1, v2, -, -⟩ := t2 _ _ (S_ist hko hS0)
  let i0 : Int := ((11 * bset b + bla b : Nat) : Int)
  have hi0 : 0 ≤ i0 ∧ i0 < 22528 := by
    show 0 ≤ ((11 * bset b + bla b : Nat) : Int) ∧ ((11 * bset b + bla b : Nat) : Int) < 22528
    omega
  let μ3 : jM := jup μ2 69 19 0
  have w91 : μ3 91 i0 = (gyr k w r (bset b) (bla b) true).2 := (congrFun (jup_ne (by decide)) _).trans v2
  obtain ⟨μ4, e4, f4, g4, r4⟩ := c_X12_tell (d + 251) (RR_0 μ2) (gyr k w r (bset b) (bla b) true).2 (by simp)
  have u90 : μ4 90 i0 = if (gyr k w r (bset b) (bla b) true).1 then 1 else 0 := by
    rw [f4 90 (by decide) (by decide)]
    exact (congrFun (jup_ne (by decide)) _).trans v1
  refine ⟨μ4, ?_, fR_t (fR_0 μ) (fR_t (fR_G2 f2) (fR_t (fR_19 μ2 0) (fR_row f4 g4))), r4⟩
  rw [e_X12_greedy, c_X12_all _ hk0, bI_r]
  have e1 : ((2 ^ kn k - 1 : Nat) : Int) = ((2 ^ kn k : Nat) : Int) - 1 := by omega
  rw [e1]
  refine Eq.trans e2 ?_
  show EV (d + 252) T_X12_greedy 1 [some (jR 69), some (jI (-1)), none] [] μ2 = _
  rw [e_X12_greedy_1, if_pos (by decide), c_X12_servedSet _ b2, bI_r, c_X12_servedLast _ b2, bI_r, c_X12_place _ _ _ _ (by omega) hl0, bI_r, gd_t hi0]
  show bV (CL _ _ [jR 69, jI (μ3 91 i0)] μ3) _ = _
  rw [w91, show CL (d + 252) 209 [jR 69, jI (gyr k w r (bset b) (bla b) true).2] μ3 = rV μ4 from e4, bV_r, gd_t hi0]
  show (if μ4 90 i0 = 0 then _ else _) = _
  rw [u90]
  cases (gyr k w r (bset b) (bla b) true).1 <;> rfl
theorem q_greedy (d e : Nat) {μ ν : jM} {k : Kt} {w : Lw} {b : List Nat} {r : List Nat} (hk : KI μ k) (hw : LI μ 16 w) (hb : BI μ 20 b) (ht : TaC μ r) (gk : KR ν k) (gw : LR ν w) (gb : SR ν b) (gt : TaR ν r) (hbk : Bok (kn k) b) : ∃ v μ' ν' r', CL (d + 7) 190 [jR 0] μ = rI v μ' ∧ CL (e + 253) 296 [jR 69] ν = rI v ν' ∧ fC μ' μ ∧ fR ν' ν ∧ RI μ' r' ∧ RR ν' r' := by
  obtain ⟨μ1, e1, f1, s1⟩ := c_X11_goOn (d + 1) hk hw hb hbk alw_1023
  have c1 : fC μ1 μ := fC_29 (fun q hq => f1 q (by omega))
  have k1 := fC_KI c1 hk
  have t1 : TaC μ1 r := ⟨ht.1, by rw [f1 12 (by omega)]; exact ht.2.1, fun i hi => by rw [f1 13 (by omega)]; exact ht.2.2 i hi⟩
  obtain ⟨μ2, e2, ⟨f2, g2⟩, r2⟩ := c_X3_playGreedy d k1 t1 s1
  obtain ⟨ν1, e3, f3, r3⟩ := c_X12_greedy e gk gw gb hbk gt
  have hs0 : bset b < 2 ^ kn k := bset_lt hbk.2
  have hgb := gyr_b hk.1 w r hs0 (bla b) true
  have h10 := hk.1.1
  have hpc := pc_le hs0 (by omega)
  have eW : gW k w r (bset b) (bset b) (bla b) = if (gyr k w r (bset b) (bla b) true).1 then 100 - (gyr k w r (bset b) (bla b) true).2 else (gyr k w r (bset b) (bla b) true).2 - 100 := by
    have e0 : ((pc (bset b) - pc (bset b)) % 2 == 0) = true := by rw [Nat.sub_self]; rfl
    unfold gW
    rw [e0]
    split <;> omega
  have u : (if 0 < gW k w r (bset b) (bset b) (bla b) then (1 : Int) else 0) = (if (gyr k w r (bset b) (bla b) true).1 then 1 else 0) ∧ 100 - jabs (gW k w r (bset b) (bset b) (bla b)) = (gyr k w r (bset b) (bla b) true).2 := by
    rw [eW]
    cases (gyr k w r (bset b) (bla b) true).1 with
    | true =>
      rw [if_pos rfl, if_pos rfl, if_pos (by omega)]
      refine ⟨rfl, ?_⟩
      unfold jabs
      rw [if_pos (by omega)]
      omega
    | false =>
      rw [if_neg (show ¬ (false = true) by decide), if_neg (show ¬ (false = true) by decide), if_neg (by omega)]
      refine ⟨rfl, ?_⟩
      unfold jabs
      rw [if_neg (by omega), w_id (by omega) (by omega)]
      omega
  rw [u.1] at e2
  rw [u.2] at r2
  refine ⟨_, μ2, ν1, _, ?_, e3, fC_t c1 ⟨fun q hq => f2 q (by omega) (by omega) (by omega) (by omega) (by omega) (by omega), g2 3 (by decide)⟩, f3, r2, r3⟩
  rw [e_X11_greedy, e1, bV_r, e2, bI_r]
