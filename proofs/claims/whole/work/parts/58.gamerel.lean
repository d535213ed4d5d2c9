/-! ## class and reference play alike -/
theorem scan_t {P H : Nat → Bool} {m f : Nat → Int} {K : Int} (hf : ∀ x, P x = true → f x = if H x then K - m x else m x - K) (hm : ∀ x, P x = true → 0 ≤ m x ∧ m x < K) : ∀ n, n ≤ 10 → (anb (fun x => P x && !H x) n = true → lfo P f n < 10 ∧ H (lfo P f n) = false ∧ tsc P H m true n = (m (lfo P f n) + 1, ((lfo P f n : Nat) : Int))) ∧ (anb (fun x => P x && !H x) n = false → tsc P H m true n = (0, -1))
  | 0, _ => ⟨fun h => (by cases h), fun _ => rfl⟩
  | n + 1, hn => by
    obtain ⟨h1, h2⟩ := scan_t hf hm n (by omega)
    have ea : anb (fun x => P x && !H x) (n + 1) = (anb (fun x => P x && !H x) n || (P n && !H n)) := rfl
    have el : lfo P f (n + 1) = if P n && (lfo P f n == 10 || decide (f n < f (lfo P f n))) then n else lfo P f n := rfl
    have hsp := lfo_spec P f n (by omega)
    rw [ea, el, tsc_s, Bool.true_and]
    cases hp : P n with
    | false =>
      rw [Bool.false_and, Bool.false_and, Bool.or_false, if_neg (by decide), if_neg (by decide)]
      exact ⟨h1, h2⟩
    | true =>
      have hfn := hf n hp
      have hmn := hm n hp
      rw [Bool.true_and, Bool.true_and]
      cases hH : H n with
      | true =>
        rw [hH, if_pos rfl] at hfn
        rw [show (!true) = false from rfl, Bool.or_false, if_neg (show ¬ (false = true) by decide)]
        refine ⟨fun ha => ?_, h2⟩
        obtain ⟨g1, g2, g3⟩ := h1 ha
        have hP : anb P n = true := by
          obtain ⟨i, i1, i2⟩ := anb_iff.mp ha
          exact anb_iff.mpr ⟨i, i1, (Bool.and_eq_true_iff.mp i2).1⟩
        have hfp := hf _ (hsp.2 hP).2.1
        have hmp := hm _ (hsp.2 hP).2.1
        rw [g2, if_neg (by decide)] at hfp
        have e10 : (lfo P f n == 10) = false := by simp; omega
        rw [e10, Bool.false_or, decide_eq_false (by omega), if_neg (by decide)]
        exact ⟨g1, g2, g3⟩
      | false =>
        rw [hH, if_neg (by decide)] at hfn
        rw [show (!false) = true from rfl, Bool.or_true, if_pos rfl]
        refine ⟨fun _ => ?_, fun z => (by cases z)⟩
        cases ha : anb (fun x => P x && !H x) n with
        | true =>
          obtain ⟨g1, g2, g3⟩ := h1 ha
          have hP : anb P n = true := by
            obtain ⟨i, i1, i2⟩ := anb_iff.mp ha
            exact anb_iff.mpr ⟨i, i1, (Bool.and_eq_true_iff.mp i2).1⟩
          have hfp := hf _ (hsp.2 hP).2.1
          rw [g2, if_neg (by decide)] at hfp
          have e10 : (lfo P f n == 10) = false := by simp; omega
          have e11 : (((lfo P f n : Nat) : Int) == -1) = false := by simp
          rw [g3, e10, Bool.false_or]
          show _ ∧ _ ∧ (if (if true = true then (((lfo P f n : Nat) : Int) == -1) || decide (m n + 1 < m (lfo P f n) + 1) else _) = true then _ else _) = _
          rw [if_pos rfl, e11, Bool.false_or]
          by_cases hlt : m n < m (lfo P f n)
          · rw [decide_eq_true (show f n < f (lfo P f n) by omega), decide_eq_true (show m n + 1 < m (lfo P f n) + 1 by omega), if_pos rfl, if_pos rfl]
            exact ⟨by omega, hH, rfl⟩
          · rw [decide_eq_false (show ¬ f n < f (lfo P f n) by omega), decide_eq_false (show ¬ m n + 1 < m (lfo P f n) + 1 by omega), if_neg (by decide), if_neg (by decide)]
            exact ⟨g1, g2, rfl⟩
        | false =>
          rw [h2 ha]
          have ep : (lfo P f n == 10 || decide (f n < f (lfo P f n))) = true := by
            by_cases h10 : lfo P f n = 10
            · simp [h10]
            · have hP : anb P n = true := by
                cases hz : anb P n with
                | true => rfl
                | false => exact absurd (hsp.1 hz) h10
              obtain ⟨i1, i2, -, -⟩ := hsp.2 hP
              have hHp : H (lfo P f n) = true := by
                have := anb_f ha i1
                rw [i2] at this
                simpa using this
              have hfp := hf _ i2
              have hmp := hm _ i2
              rw [hHp, if_pos rfl] at hfp
              rw [decide_eq_true (by omega), Bool.or_true]
          rw [ep, if_pos rfl]
          refine ⟨by omega, hH, ?_⟩
          show (if (if true = true then ((-1 : Int) == -1) || decide (m n + 1 < 0) else _) = true then _ else _) = _
          rw [if_pos rfl]
          rfl
theorem scan_f {P H : Nat → Bool} {m f : Nat → Int} {K : Int} (hf : ∀ x, P x = true → f x = K - m x) (hm : ∀ x, P x = true → 0 ≤ m x ∧ m x < K) : ∀ n, n ≤ 10 → (anb P n = true → lfo P f n < 10 ∧ tsc P H m false n = (m (lfo P f n) + 1, ((lfo P f n : Nat) : Int))) ∧ (anb P n = false → tsc P H m false n = (0, -1))
  | 0, _ => ⟨fun h => (by cases h), fun _ => rfl⟩
  | n + 1, hn => by
    obtain ⟨h1, h2⟩ := scan_f hf hm (H := H) n (by omega)
    have ea : anb P (n + 1) = (anb P n || P n) := rfl
    have el : lfo P f (n + 1) = if P n && (lfo P f n == 10 || decide (f n < f (lfo P f n))) then n else lfo P f n := rfl
    have hsp := lfo_spec P f n (by omega)
    rw [ea, el, tsc_s, Bool.false_and]
    cases hp : P n with
    | false =>
      rw [Bool.false_and, Bool.false_and, Bool.or_false, if_neg (by decide), if_neg (by decide)]
      exact ⟨h1, h2⟩
    | true =>
      have hfn := hf n hp
      have hmn := hm n hp
      rw [Bool.true_and, Bool.true_and, show (!false) = true from rfl, Bool.or_true, if_pos rfl]
      refine ⟨fun _ => ?_, fun z => (by cases z)⟩
      cases ha : anb P n with
      | true =>
        obtain ⟨g1, g3⟩ := h1 ha
        have hfp := hf _ (hsp.2 ha).2.1
        have e10 : (lfo P f n == 10) = false := by simp; omega
        rw [g3, e10, Bool.false_or]
        show _ ∧ (if (if false = true then _ else decide (m (lfo P f n) + 1 < m n + 1)) = true then _ else _) = _
        rw [if_neg (show ¬ false = true by decide)]
        by_cases hlt : m (lfo P f n) < m n
        · rw [decide_eq_true (show f n < f (lfo P f n) by omega), decide_eq_true (show m (lfo P f n) + 1 < m n + 1 by omega), if_pos rfl, if_pos rfl]
          exact ⟨by omega, rfl⟩
        · rw [decide_eq_false (show ¬ f n < f (lfo P f n) by omega), decide_eq_false (show ¬ m (lfo P f n) + 1 < m n + 1 by omega), if_neg (by decide), if_neg (by decide)]
          exact ⟨g1, rfl⟩
      | false =>
        rw [h2 ha, hsp.1 ha]
        have ep : ((10 : Nat) == 10 || decide (f n < f 10)) = true := rfl
        rw [ep, if_pos rfl]
        refine ⟨by omega, ?_⟩
        show (if (if false = true then _ else decide ((0 : Int) < m n + 1)) = true then _ else _) = _
        rw [if_neg (show ¬ false = true by decide), decide_eq_true (by omega), if_pos rfl]
theorem gt_pc {k : Kt} (hk : Kok k) (w : Lw) {s l : Nat} (hs : s < 2 ^ kn k) : (pc s : Int) + (gtr k w s l).2.1 ≤ 10 := by
  have h10 := hk.1
  have := pc_le hs (by omega)
  have := gt_b hk w (10 - pc s) s l
  unfold gtr
  omega
theorem game_rel {k : Kt} (hk : Kok k) (w : Lw) (s0 : Nat) (h0 : pc s0 ≤ 10) : ∀ r s l, s < 2 ^ kn k → 10 - pc s = r → gvr k w s0 s l = (if (gtr k w s l).1 then 100 - ((pc s : Int) - pc s0 + (gtr k w s l).2.1) else (pc s : Int) - pc s0 + (gtr k w s l).2.1 - 100) ∧ ((gtr k w s l).1 = true → gp k w s0 s l < 10 ∧ (gtr k w s l).2.2 = ((gp k w s0 s l : Nat) : Int)) := by
  intro r
  induction r with
  | zero =>
    intro s l hs hr
    have h10 := hk.1
    have hp := pc_le hs (by omega)
    have h9 : pc s = 10 := by omega
    unfold gvr gtr
    rw [h9]
    exact ⟨by show (pc s : Int) - pc s0 - 100 = if false = true then _ else ((10 : Nat) : Int) - pc s0 + 0 - 100; rw [if_neg (by decide), h9]; omega, fun z => (by cases z)⟩
  | succ r ih =>
    intro s l hs hr
    have h10 := hk.1
    have hps := pc_le hs (by omega)
    let P : Nat → Bool := fun x => gS k w s l x
    let H : Nat → Bool := fun x => (gtr k w (s ||| 2 ^ x) x).1
    let m : Nat → Int := fun x => (gtr k w (s ||| 2 ^ x) x).2.1
    let f : Nat → Int := fun x => gvr k w s0 (s ||| 2 ^ x) x
    let K : Int := 100 - ((pc s : Int) + 1 - pc s0)
    have hnx : ∀ x, P x = true → s ||| 2 ^ x < 2 ^ kn k ∧ pc (s ||| 2 ^ x) = pc s + 1 := fun x hx => ⟨(SS_stt hk hs hx).1.1, (SS_stt hk hs hx).2⟩
    have hf : ∀ x, P x = true → f x = if H x then K - m x else m x - K := fun x hx => by
      obtain ⟨h1, h2⟩ := hnx x hx
      have := (ih (s ||| 2 ^ x) x h1 (by omega)).1
      show gvr k w s0 (s ||| 2 ^ x) x = _
      rw [this, h2]
      show _ = if (gtr k w (s ||| 2 ^ x) x).1 then (100 - ((pc s : Int) + 1 - pc s0)) - (gtr k w (s ||| 2 ^ x) x).2.1 else (gtr k w (s ||| 2 ^ x) x).2.1 - (100 - ((pc s : Int) + 1 - pc s0))
      split <;> omega
    have hm : ∀ x, P x = true → 0 ≤ m x ∧ m x < K := fun x hx => by
      obtain ⟨h1, h2⟩ := hnx x hx
      have a := gt_pc hk w (l := x) h1
      have b := gtr_b hk w (s ||| 2 ^ x) x
      show 0 ≤ (gtr k w (s ||| 2 ^ x) x).2.1 ∧ (gtr k w (s ||| 2 ^ x) x).2.1 < 100 - ((pc s : Int) + 1 - pc s0)
      omega
    have eg := gvr_s hk w s0 (l := l) hs
    have et := gtr_s hk w (l := l) hs
    have egp : gp k w s0 s l = lfo P f (kn k) := lfo_hi h10 (fun i h1 _ => gS_hi h1)
    have hsp := lfo_spec P f (kn k) h10
    rw [et, eg, egp]
    cases hb : anb (fun x => P x && !H x) (kn k) with
    | true =>
      obtain ⟨g1, g2, g3⟩ := (scan_t hf hm (kn k) h10).1 hb
      have hPa : anb P (kn k) = true := by
        obtain ⟨i, i1, i2⟩ := anb_iff.mp hb
        exact anb_iff.mpr ⟨i, i1, (Bool.and_eq_true_iff.mp i2).1⟩
      have hPp := (hsp.2 hPa).2.1
      have hfp := hf _ hPp
      rw [g2, if_neg (by decide)] at hfp
      rw [show tsc (fun x => gS k w s l x) (fun x => (gtr k w (s ||| 2 ^ x) x).1) (fun x => (gtr k w (s ||| 2 ^ x) x).2.1) true (kn k) = _ from g3]
      refine ⟨?_, fun _ => ⟨g1, rfl⟩⟩
      rw [if_neg (by omega), if_pos rfl]
      show -(f (lfo P f (kn k))) = 100 - ((pc s : Int) - pc s0 + (m (lfo P f (kn k)) + 1))
      rw [hfp]
      show -(m (lfo P f (kn k)) - (100 - ((pc s : Int) + 1 - pc s0))) = _
      omega
    | false =>
      have hall : ∀ x, P x = true → H x = true := fun x hx => by
        have := anb_f hb (SS_i hx).1
        have h2 : (P x && !H x) = false := this
        rw [hx, Bool.true_and] at h2
        simpa using h2
      have hf2 : ∀ x, P x = true → f x = K - m x := fun x hx => by
        have := hf x hx
        rw [hall x hx, if_pos rfl] at this
        exact this
      have hsc := scan_f (H := H) hf2 hm (kn k) h10
      refine ⟨?_, fun z => (by cases z)⟩
      cases hPa : anb P (kn k) with
      | true =>
        obtain ⟨g1, g3⟩ := hsc.1 hPa
        rw [show tsc (fun x => gS k w s l x) (fun x => (gtr k w (s ||| 2 ^ x) x).1) (fun x => (gtr k w (s ||| 2 ^ x) x).2.1) false (kn k) = _ from g3]
        have hfp := hf2 _ (hsp.2 hPa).2.1
        rw [if_neg (by omega)]
        show -(f (lfo P f (kn k))) = if false = true then 100 - ((pc s : Int) - pc s0 + (m (lfo P f (kn k)) + 1)) else (pc s : Int) - pc s0 + (m (lfo P f (kn k)) + 1) - 100
        rw [if_neg (by decide)]
        rw [hfp]
        show -((100 - ((pc s : Int) + 1 - pc s0)) - m (lfo P f (kn k))) = _
        omega
      | false =>
        rw [show tsc (fun x => gS k w s l x) (fun x => (gtr k w (s ||| 2 ^ x) x).1) (fun x => (gtr k w (s ||| 2 ^ x) x).2.1) false (kn k) = _ from hsc.2 hPa]
        rw [if_pos (hsp.1 hPa)]
        show (pc s : Int) - pc s0 - 100 = if false = true then 100 - ((pc s : Int) - pc s0 + 0) else (pc s : Int) - pc s0 + 0 - 100
        rw [if_neg (by decide)]
        omega
/-- so the answers and the rows are -/
theorem game_same {k : Kt} (hk : Kok k) (w : Lw) {s0 l0 : Nat} (h0 : s0 < 2 ^ kn k) : (if 0 < gvr k w s0 s0 l0 then (1 : Int) else 0) = (if (gtr k w s0 l0).1 then 1 else 0) ∧ [if 0 < gvr k w s0 s0 l0 then lno (gp k w s0 s0 l0) else -1, 100 - jabs (gvr k w s0 s0 l0)] = [if (gtr k w s0 l0).1 then (gtr k w s0 l0).2.2 else -1, (gtr k w s0 l0).2.1] := by
  have h10 := hk.1
  have hp := pc_le h0 (by omega)
  obtain ⟨r1, r2⟩ := game_rel hk w s0 (by omega) (10 - pc s0) s0 l0 h0 rfl
  have hb := gtr_b hk w s0 l0
  cases hs : (gtr k w s0 l0).1 with
  | true =>
    rw [hs, if_pos rfl] at r1
    obtain ⟨g1, g2⟩ := r2 hs
    have hpos : 0 < gvr k w s0 s0 l0 := by omega
    rw [if_pos hpos, if_pos hpos, if_pos rfl, if_pos rfl, g2, show lno (gp k w s0 s0 l0) = ((gp k w s0 s0 l0 : Nat) : Int) from if_neg (by omega)]
    refine ⟨rfl, ?_⟩
    have : 100 - jabs (gvr k w s0 s0 l0) = (gtr k w s0 l0).2.1 := by
      unfold jabs
      rw [if_pos (by omega)]
      omega
    rw [this]
  | false =>
    rw [hs, if_neg (by decide)] at r1
    have hneg : ¬ 0 < gvr k w s0 s0 l0 := by omega
    rw [if_neg hneg, if_neg hneg, if_neg (by decide), if_neg (by decide)]
    refine ⟨rfl, ?_⟩
    have : 100 - jabs (gvr k w s0 s0 l0) = (gtr k w s0 l0).2.1 := by
      unfold jabs
      rw [if_neg (by omega), w_id (by omega) (by omega)]
      omega
    rw [this]
