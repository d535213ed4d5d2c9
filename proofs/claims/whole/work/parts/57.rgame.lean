/-! ## the reference's game -/
def tsc (P H : Nat → Bool) (m : Nat → Int) (b : Bool) : Nat → Int × Int
  | 0 => (0, -1)
  | n + 1 => if P n && !(b && H n) then (if (if b then (tsc P H m b n).2 == -1 || decide (m n + 1 < (tsc P H m b n).1) else decide ((tsc P H m b n).1 < m n + 1)) then (m n + 1, (n : Int)) else tsc P H m b n) else tsc P H m b n
theorem tsc_s (P H : Nat → Bool) (m : Nat → Int) (b : Bool) (n : Nat) : tsc P H m b (n + 1) = if P n && !(b && H n) then (if (if b then (tsc P H m b n).2 == -1 || decide (m n + 1 < (tsc P H m b n).1) else decide ((tsc P H m b n).1 < m n + 1)) then (m n + 1, (n : Int)) else tsc P H m b n) else tsc P H m b n := rfl
theorem tsc_b {P H : Nat → Bool} {m : Nat → Int} {b : Bool} {B : Int} (hB : 0 ≤ B) (hm : ∀ x, P x = true → 0 ≤ m x ∧ m x + 1 ≤ B) : ∀ n : Nat, 0 ≤ (tsc P H m b n).1 ∧ (tsc P H m b n).1 ≤ B ∧ -1 ≤ (tsc P H m b n).2 ∧ (tsc P H m b n).2 < n
  | 0 => by
    show 0 ≤ (0 : Int) ∧ (0 : Int) ≤ B ∧ -1 ≤ (-1 : Int) ∧ (-1 : Int) < ((0 : Nat) : Int)
    omega
  | n + 1 => by
    have ih := tsc_b hB hm (b := b) (H := H) n
    rw [tsc_s]
    cases hc : (P n && !(b && H n)) with
    | false =>
      rw [if_neg (by decide)]
      omega
    | true =>
      rw [if_pos rfl]
      have hp := hm n (Bool.and_eq_true_iff.mp hc).1
      by_cases h2 : (if b then (tsc P H m b n).2 == -1 || decide (m n + 1 < (tsc P H m b n).1) else decide ((tsc P H m b n).1 < m n + 1)) = true
      · rw [if_pos h2]
        show 0 ≤ m n + 1 ∧ m n + 1 ≤ B ∧ -1 ≤ (n : Int) ∧ (n : Int) < ((n + 1 : Nat) : Int)
        omega
      · rw [if_neg h2]
        omega
theorem tsc_cg {P P' H H' : Nat → Bool} {m m' : Nat → Int} {b : Bool} : ∀ {n : Nat}, (∀ x, x < n → P x = P' x ∧ (P x = true → H x = H' x ∧ m x = m' x)) → tsc P H m b n = tsc P' H' m' b n
  | 0, _ => rfl
  | n + 1, h => by
    have ih := tsc_cg (b := b) (n := n) (fun x hx => h x (by omega))
    obtain ⟨h1, h2⟩ := h n (Nat.lt_succ_self n)
    rw [tsc_s, tsc_s, ← ih, ← h1]
    cases hp : P n with
    | false => rfl
    | true =>
      obtain ⟨h3, h4⟩ := h2 hp
      rw [h3, h4]
theorem tsc_hi {P H : Nat → Bool} {m : Nat → Int} {b : Bool} {n : Nat} : ∀ {M : Nat}, n ≤ M → (∀ i, n ≤ i → i < M → P i = false) → tsc P H m b M = tsc P H m b n
  | 0, h, _ => by
    have : n = 0 := by omega
    rw [this]
  | M + 1, h, hp => by
    by_cases e : n = M + 1
    · rw [e]
    · rw [tsc_s, hp M (by omega) (by omega), Bool.false_and, if_neg (by decide)]
      exact tsc_hi (by omega) (fun i h1 h2 => hp i h1 (by omega))
theorem anb_hi {P : Nat → Bool} {n M : Nat} (h : n ≤ M) (hp : ∀ i, n ≤ i → i < M → P i = false) : anb P M = anb P n := by
  apply Bool.eq_iff_iff.mpr
  rw [anb_iff, anb_iff]
  constructor
  · rintro ⟨i, h1, h2⟩
    refine ⟨i, ?_, h2⟩
    by_cases hi : i < n
    · exact hi
    · rw [hp i (by omega) h1] at h2
      cases h2
  · rintro ⟨i, h1, h2⟩
    exact ⟨i, by omega, h2⟩
abbrev gS (k : Kt) (w : Lw) : Nat → Nat → Nat → Bool := SS k w (fun _ _ => true) 0
/-- who is on turn can shame the other; how many more; with which first -/
def gt (k : Kt) (w : Lw) : Nat → Nat → Nat → Bool × Int × Int
  | 0, _, _ => (false, 0, -1)
  | r + 1, s, l => (anb (fun x => gS k w s l x && !(gt k w r (s ||| 2 ^ x) x).1) 10, tsc (fun x => gS k w s l x) (fun x => (gt k w r (s ||| 2 ^ x) x).1) (fun x => (gt k w r (s ||| 2 ^ x) x).2.1) (anb (fun x => gS k w s l x && !(gt k w r (s ||| 2 ^ x) x).1) 10) 10)
def gtr (k : Kt) (w : Lw) (s l : Nat) : Bool × Int × Int := gt k w (10 - pc s) s l
theorem gS_hi {k : Kt} {w : Lw} {s l i : Nat} (h : kn k ≤ i) : gS k w s l i = false := by
  show SS k w (fun _ _ => true) 0 s l i = false
  unfold SS stp
  have : decide (i < kn k) = false := decide_eq_false (by omega)
  rw [this, Bool.false_and]
theorem gtr_s {k : Kt} (hk : Kok k) (w : Lw) {s l : Nat} (hs : s < 2 ^ kn k) : gtr k w s l = (anb (fun x => gS k w s l x && !(gtr k w (s ||| 2 ^ x) x).1) (kn k), tsc (fun x => gS k w s l x) (fun x => (gtr k w (s ||| 2 ^ x) x).1) (fun x => (gtr k w (s ||| 2 ^ x) x).2.1) (anb (fun x => gS k w s l x && !(gtr k w (s ||| 2 ^ x) x).1) (kn k)) (kn k)) := by
  have h10 := hk.1
  have hp := pc_le hs (by omega)
  by_cases h : pc s = 10
  · have hno : ∀ x, gS k w s l x = false := fun x => by
      cases hx : gS k w s l x with
      | false => rfl
      | true =>
        obtain ⟨h1, h2⟩ := SS_stt hk hs hx
        have := pc_le h1.1 (by omega)
        omega
    have e1 : anb (fun x => gS k w s l x && !(gtr k w (s ||| 2 ^ x) x).1) (kn k) = false := by
      rw [anb_hi (n := 0) (Nat.zero_le _) (fun i _ _ => by rw [hno i, Bool.false_and])]
      rfl
    rw [e1, tsc_hi (n := 0) (Nat.zero_le _) (fun i _ _ => hno i)]
    unfold gtr
    rw [h]
    rfl
  · have e : 10 - pc s = (10 - (pc s + 1)) + 1 := by omega
    have en : ∀ x, gS k w s l x = true → gt k w (10 - (pc s + 1)) (s ||| 2 ^ x) x = gtr k w (s ||| 2 ^ x) x := fun x hx => by
      unfold gtr
      rw [(SS_stt hk hs hx).2]
    have e1 : anb (fun x => gS k w s l x && !(gt k w (10 - (pc s + 1)) (s ||| 2 ^ x) x).1) 10 = anb (fun x => gS k w s l x && !(gtr k w (s ||| 2 ^ x) x).1) (kn k) := by
      rw [anb_hi h10 (fun i h1 _ => by rw [gS_hi h1, Bool.false_and])]
      exact anb_cg (fun x _ => by
        cases hx : gS k w s l x with
        | false => rfl
        | true => rw [en x hx])
    have e2 : ∀ b, tsc (fun x => gS k w s l x) (fun x => (gt k w (10 - (pc s + 1)) (s ||| 2 ^ x) x).1) (fun x => (gt k w (10 - (pc s + 1)) (s ||| 2 ^ x) x).2.1) b 10 = tsc (fun x => gS k w s l x) (fun x => (gtr k w (s ||| 2 ^ x) x).1) (fun x => (gtr k w (s ||| 2 ^ x) x).2.1) b (kn k) := fun b => by
      rw [tsc_hi h10 (fun i h1 _ => gS_hi h1)]
      exact tsc_cg (fun x _ => ⟨rfl, fun hx => by rw [en x hx]; exact ⟨rfl, rfl⟩⟩)
    show gt k w (10 - pc s) s l = _
    rw [e]
    show (anb _ 10, tsc _ _ _ (anb _ 10) 10) = _
    rw [e1, e2]
theorem gt_b {k : Kt} (hk : Kok k) (w : Lw) : ∀ r s l, 0 ≤ (gt k w r s l).2.1 ∧ (gt k w r s l).2.1 ≤ r ∧ -1 ≤ (gt k w r s l).2.2 ∧ (gt k w r s l).2.2 < 10
  | 0, _, _ => by
    show 0 ≤ (0 : Int) ∧ (0 : Int) ≤ ((0 : Nat) : Int) ∧ -1 ≤ (-1 : Int) ∧ (-1 : Int) < 10
    decide
  | r + 1, s, l => by
    have := tsc_b (P := fun x => gS k w s l x) (H := fun x => (gt k w r (s ||| 2 ^ x) x).1) (m := fun x => (gt k w r (s ||| 2 ^ x) x).2.1) (b := anb (fun x => gS k w s l x && !(gt k w r (s ||| 2 ^ x) x).1) 10) (B := ((r + 1 : Nat) : Int)) (by omega) (fun x _ => by
      have := gt_b hk w r (s ||| 2 ^ x) x
      show 0 ≤ (gt k w r (s ||| 2 ^ x) x).2.1 ∧ (gt k w r (s ||| 2 ^ x) x).2.1 + 1 ≤ ((r + 1 : Nat) : Int)
      omega) 10
    exact this
theorem gtr_b {k : Kt} (hk : Kok k) (w : Lw) (s l : Nat) : 0 ≤ (gtr k w s l).2.1 ∧ (gtr k w s l).2.1 ≤ 10 ∧ -1 ≤ (gtr k w s l).2.2 ∧ (gtr k w s l).2.2 < 10 := by
  have := gt_b hk w (10 - pc s) s l
  unfold gtr
  omega
theorem jup_com {μ : jM} {p q : Nat} {i j u v : Int} (h : p ≠ q) : jup (jup μ p i u) q j v = jup (jup μ q j v) p i u := by
  funext r m
  unfold jup
  by_cases h1 : r = q ∧ m = j
  · by_cases h2 : r = p ∧ m = i
    · exact absurd (h2.1.symm.trans h1.1) h
    · rw [if_pos h1, if_neg h2, if_pos h1]
  · rw [if_neg h1]
    by_cases h2 : r = p ∧ m = i
    · rw [if_pos h2, if_pos h2]
    · rw [if_neg h2, if_neg h2, if_neg h1]
/-- the three tables at a place -/
def GT (μ : jM) (k : Kt) (w : Lw) (s l : Nat) : Prop := μ 87 ((11 * s + l : Nat) : Int) = (if (gtr k w s l).1 then 1 else 0) ∧ μ 88 ((11 * s + l : Nat) : Int) = (gtr k w s l).2.1 ∧ μ 89 ((11 * s + l : Nat) : Int) = (gtr k w s l).2.2
theorem c_X12_findTurn (d : Nat) {μ : jM} {k : Kt} {w : Lw} (hk : KR μ k) (hw : LR μ w) (a j : Nat) (hj : j ≤ kn k) (hst : Stt k a (lx j)) (hT : ∀ x, gS k w a (lx j) x = true → GT μ k w (a ||| 2 ^ x) x) : CL (d + 5) 293 [jR 69, jI a, jI ((j : Int) - 1)] μ = rV (jup (jup (jup μ 87 ((11 * a + lx j : Nat) : Int) (if (gtr k w a (lx j)).1 then 1 else 0)) 88 ((11 * a + lx j : Nat) : Int) (gtr k w a (lx j)).2.1) 89 ((11 * a + lx j : Nat) : Int) (gtr k w a (lx j)).2.2) := by
  have hko := hk.1
  have h10 := hko.1
  have hN := p2_le h10
  have ha := hst.1
  have hjx := lx_le hj h10
  let P : Nat → Bool := fun x => gS k w a (lx j) x
  let H : Nat → Bool := fun x => (gtr k w (a ||| 2 ^ x) x).1
  let m : Nat → Int := fun x => (gtr k w (a ||| 2 ^ x) x).2.1
  let b : Bool := anb (fun x => P x && !H x) (kn k)
  let i0 : Int := ((11 * a + lx j : Nat) : Int)
  have hi0 : 0 ≤ i0 ∧ i0 < 11264 := by
    show 0 ≤ ((11 * a + lx j : Nat) : Int) ∧ ((11 * a + lx j : Nat) : Int) < 11264
    omega
  have er : gtr k w a (lx j) = (b, tsc P H m b (kn k)) := gtr_s hko w ha
  have mb : ∀ x, 0 ≤ m x ∧ m x ≤ 10 := fun x => by
    have := gtr_b hko w (a ||| 2 ^ x) x
    exact ⟨this.1, this.2.1⟩
  have pics : ∀ μ1 : jM, (∀ q, q ≠ 87 → q ≠ 88 → q ≠ 89 → μ1 q = μ q) → KR μ1 k ∧ LR μ1 w := fun μ1 f => ⟨KR_cg hk (fun q _ _ => f q (by omega) (by omega) (by omega)) (by rw [f 69 (by decide) (by decide) (by decide)]) (by rw [f 69 (by decide) (by decide) (by decide)]), LR_cg hw (f 70 (by decide) (by decide) (by decide)) (by rw [f 69 (by decide) (by decide) (by decide)]) (by rw [f 69 (by decide) (by decide) (by decide)]) (by rw [f 69 (by decide) (by decide) (by decide)])⟩
  have hSm : ∀ x, x < kn k → may k w a (lx j) x = P x := fun x hx => by
    show _ = SS k w (fun _ _ => true) 0 a (lx j) x
    unfold SS stp
    rw [decide_eq_true hx]
    simp
  have nxt : ∀ x, P x = true → a ||| 2 ^ x < 2 ^ kn k ∧ a < a ||| 2 ^ x ∧ x < kn k := fun x hx => ⟨(SS_stt hko ha hx).1.1, or_gt (SS_i hx).2.2.2, (SS_i hx).1⟩
  -- the first loop
  let M1 : Bool → jM := fun c => jup μ 87 i0 (if c then 1 else 0)
  have l1 : ∀ x : Nat, x < kn k → EV (d + 4) T_X12_findTurn 1 [some (jR 69), some (jI a), some (jI ((j : Int) - 1)), some (jI i0), some (jI x), none, none, none] [] (M1 (anb (fun x => P x && !H x) x)) = EV (d + 4) T_X12_findTurn 1 [some (jR 69), some (jI a), some (jI ((j : Int) - 1)), some (jI i0), some (jI (x + 1 : Nat)), none, none, none] [] (M1 (anb (fun x => P x && !H x) (x + 1))) := by
    intro x hx
    obtain ⟨k1, w1⟩ := pics (M1 (anb (fun x => P x && !H x) x)) (fun q h1 _ _ => jup_ne h1)
    have h2x := p2_le (show x ≤ 10 by omega)
    have ea : anb (fun x => P x && !H x) (x + 1) = (anb (fun x => P x && !H x) x || (P x && !H x)) := rfl
    rw [e_X12_findTurn_1, k1.2.1, if_pos (by omega), x_may _ k1 w1 a j x (by omega) hst hx, bI_r, hSm x hx, e_X12_findTurn_2, w_s x (by omega), ea]
    cases hP : P x with
    | false =>
      rw [Bool.false_and, Bool.or_false]
      rfl
    | true =>
      obtain ⟨n1, n2, n3⟩ := nxt x hP
      have h87 : M1 (anb (fun x => P x && !H x) x) 87 ((11 * (a ||| 2 ^ x) + x : Nat) : Int) = if H x then 1 else 0 := by
        refine (jup_m ?_).trans (hT x hP).1
        show ((11 * (a ||| 2 ^ x) + x : Nat) : Int) ≠ ((11 * a + lx j : Nat) : Int)
        omega
      rw [if_pos rfl, if_neg (by decide), shl_1 _ (by omega), or_nn a _ (by omega) (by omega), d_place _ _ _ x (by omega) (by omega), bI_r, gd_t (by omega), h87]
      cases hH : H x with
      | true =>
        rw [if_pos rfl, if_neg (by decide), e_X12_findTurn_2, w_s x (by omega)]
        simp
      | false =>
        rw [z_f, gd_t hi0, gd_t (by decide), e_X12_findTurn_2, w_s x (by omega)]
        have : jup (M1 (anb (fun x => P x && !H x) x)) 87 i0 1 = M1 (anb (fun x => P x && !H x) x || (true && !false)) := by
          have e1 : (anb (fun x => P x && !H x) x || (true && !false)) = true := by simp
          rw [e1]
          exact jup_jup _ _ _ _ _
        rw [this]
  -- the second
  let M3 : Int × Int → jM := fun t => jup (jup (M1 b) 88 i0 t.1) 89 i0 t.2
  have M3u : ∀ (t : Int × Int) (u v : Int), jup (jup (M3 t) 88 i0 u) 89 i0 v = M3 (u, v) := fun t u v => by
    show jup (jup (jup (jup (M1 b) 88 i0 t.1) 89 i0 t.2) 88 i0 u) 89 i0 v = jup (jup (M1 b) 88 i0 u) 89 i0 v
    rw [jup_com (show (89 : Nat) ≠ 88 by decide), jup_jup, jup_jup]
  have tb : ∀ x, 0 ≤ (tsc P H m b x).1 ∧ (tsc P H m b x).1 ≤ 11 ∧ -1 ≤ (tsc P H m b x).2 ∧ (tsc P H m b x).2 < x := fun x => tsc_b (by decide) (fun x _ => by have := mb x; omega) x
  have l3 : ∀ x : Nat, x < kn k → EV (d + 4) T_X12_findTurn 3 [some (jR 69), some (jI a), some (jI ((j : Int) - 1)), some (jI i0), some (jI x), none, none, none] [] (M3 (tsc P H m b x)) = EV (d + 4) T_X12_findTurn 3 [some (jR 69), some (jI a), some (jI ((j : Int) - 1)), some (jI i0), some (jI (x + 1 : Nat)), none, none, none] [] (M3 (tsc P H m b (x + 1))) := by
    intro x hx
    obtain ⟨k1, w1⟩ := pics (M3 (tsc P H m b x)) (fun q h1 h2 h3 => (jup_ne h3).trans ((jup_ne h2).trans (jup_ne h1)))
    have h2x := p2_le (show x ≤ 10 by omega)
    have v87 : M3 (tsc P H m b x) 87 i0 = if b then 1 else 0 := by
      show jup (jup (M1 b) 88 i0 _) 89 i0 _ 87 i0 = _
      rw [jup_ne (by decide), jup_ne (by decide)]
      exact jup_r _ _ _ _
    have v88 : M3 (tsc P H m b x) 88 i0 = (tsc P H m b x).1 := by
      show jup (jup (M1 b) 88 i0 _) 89 i0 _ 88 i0 = _
      rw [jup_ne (by decide)]
      exact jup_r _ _ _ _
    have v89 : M3 (tsc P H m b x) 89 i0 = (tsc P H m b x).2 := jup_r _ _ _ _
    rw [e_X12_findTurn_3, k1.2.1, if_pos (by omega), x_may _ k1 w1 a j x (by omega) hst hx, bI_r, hSm x hx, e_X12_findTurn_6, w_s x (by omega), tsc_s]
    cases hP : P x with
    | false =>
      rw [Bool.false_and]
      rfl
    | true =>
      obtain ⟨n1, n2, n3⟩ := nxt x hP
      have hne : ((11 * (a ||| 2 ^ x) + x : Nat) : Int) ≠ i0 := by
        show ((11 * (a ||| 2 ^ x) + x : Nat) : Int) ≠ ((11 * a + lx j : Nat) : Int)
        omega
      have u87 : M3 (tsc P H m b x) 87 ((11 * (a ||| 2 ^ x) + x : Nat) : Int) = if H x then 1 else 0 := by
        show jup (jup (M1 b) 88 i0 _) 89 i0 _ 87 _ = _
        rw [jup_ne (by decide), jup_ne (by decide)]
        exact (jup_m hne).trans (hT x hP).1
      have u88 : M3 (tsc P H m b x) 88 ((11 * (a ||| 2 ^ x) + x : Nat) : Int) = m x := by
        show jup (jup (M1 b) 88 i0 _) 89 i0 _ 88 _ = _
        rw [jup_ne (by decide), jup_m hne]
        exact (congrFun (jup_ne (by decide)) _).trans (hT x hP).2.1
      have hmx := mb x
      have htb := tb x
      rw [if_pos rfl, if_neg (by decide), shl_1 _ (by omega), or_nn a _ (by omega) (by omega), d_place _ _ _ x (by omega) (by omega), bI_r, gd_t hi0, v87, Bool.true_and]
      have four : (b && H x) = false → EV (d + 4) T_X12_findTurn 4 [some (jR 69), some (jI a), some (jI ((j : Int) - 1)), some (jI i0), some (jI x), some (jI (11 * (a ||| 2 ^ x) + x : Nat)), none, none] [] (M3 (tsc P H m b x)) = EV (d + 4) T_X12_findTurn 3 [some (jR 69), some (jI a), some (jI ((j : Int) - 1)), some (jI i0), some (jI (x + 1 : Nat)), none, none, none] [] (M3 (if (if b then (tsc P H m b x).2 == -1 || decide (m x + 1 < (tsc P H m b x).1) else decide ((tsc P H m b x).1 < m x + 1)) then (m x + 1, (x : Int)) else tsc P H m b x)) := fun hz => by
        have six : ∀ t, EV (d + 4) T_X12_findTurn 6 [some (jR 69), some (jI a), some (jI ((j : Int) - 1)), some (jI i0), some (jI x), none, none, none] [] (M3 t) = EV (d + 4) T_X12_findTurn 3 [some (jR 69), some (jI a), some (jI ((j : Int) - 1)), some (jI i0), some (jI (x + 1 : Nat)), none, none, none] [] (M3 t) := fun t => by rw [e_X12_findTurn_6, w_s x (by omega)]
        rw [e_X12_findTurn_4, gd_t (by omega), gd_t hi0, v87, v88, v89, u88, w_id (x := m x + 1) (by omega) (by omega)]
        cases hb : b with
        | false =>
          rw [z_f, gd_t hi0]
          show _ = EV _ _ _ _ _ (M3 (if decide ((tsc P H m false x).1 < m x + 1) then _ else _))
          by_cases hlt : (tsc P H m false x).1 < m x + 1
          · rw [decide_eq_true hlt, if_pos hlt, if_neg (by decide), gd_t hi0, gd_t hi0, ← hb, M3u, six]
            rfl
          · rw [decide_eq_false hlt, if_neg hlt, if_pos rfl, six]
            rfl
        | true =>
          rw [z_t, gd_t hi0]
          have five : ∀ u, EV (d + 4) T_X12_findTurn 5 [some (jR 69), some (jI a), some (jI ((j : Int) - 1)), some (jI i0), some (jI x), none, some (jI u), none] [] (M3 (tsc P H m true x)) = EV (d + 4) T_X12_findTurn 3 [some (jR 69), some (jI a), some (jI ((j : Int) - 1)), some (jI i0), some (jI (x + 1 : Nat)), none, none, none] [] (M3 (u, (x : Int))) := fun u => by
            rw [e_X12_findTurn_5, if_neg (by decide), gd_t hi0, gd_t hi0, M3u, six]
          show _ = EV _ _ _ _ _ (M3 (if ((tsc P H m true x).2 == -1 || decide (m x + 1 < (tsc P H m true x).1)) then _ else _))
          by_cases h1 : (tsc P H m true x).2 = -1
          · have e1 : ((tsc P H m true x).2 == -1) = true := by simpa using h1
            rw [if_pos h1, e1, five]
            rfl
          · have e1 : ((tsc P H m true x).2 == -1) = false := by simpa using h1
            rw [if_neg h1, e1, Bool.false_or, gd_t hi0]
            by_cases h2 : m x + 1 < (tsc P H m true x).1
            · rw [if_pos h2, decide_eq_true h2, five]
              rfl
            · rw [if_neg h2, decide_eq_false h2, if_pos rfl, six]
              rfl
      cases hb : b with
      | false =>
        rw [z_f]
        have := four (by rw [hb]; rfl)
        rw [hb] at this
        rw [this]
        rfl
      | true =>
        rw [z_t, gd_t (by omega)]
        have hu := u87
        rw [hb] at hu
        rw [hu, Bool.true_and]
        cases hH : H x with
        | false =>
          rw [z_f]
          have := four (by rw [hb, hH]; rfl)
          rw [hb] at this
          rw [this]
          rfl
        | true =>
          rw [z_t, e_X12_findTurn_6, w_s x (by omega)]
          rfl
  have eM0 : jup (jup (M1 b) 89 i0 (-1)) 88 i0 0 = M3 (tsc P H m b 0) := jup_com (by decide)
  rw [e_X12_findTurn, x_place _ _ a j (by omega) (by omega), bI_r, gd_t (by omega), gd_t (by decide), er]
  refine (lp_0 (fun x : Nat => EV (d + 4) T_X12_findTurn 1 [some (jR 69), some (jI a), some (jI ((j : Int) - 1)), some (jI i0), some (jI x), none, none, none] [] (M1 (anb (fun x => P x && !H x) x))) (kn k) l1).trans ?_
  obtain ⟨k1, -⟩ := pics (M1 b) (fun q h1 _ _ => jup_ne h1)
  show EV (d + 4) T_X12_findTurn 1 _ [] (M1 b) = _
  rw [e_X12_findTurn_1, k1.2.1, if_neg (by omega), gd_t hi0, gd_t hi0, eM0]
  refine (lp_0 (fun x : Nat => EV (d + 4) T_X12_findTurn 3 [some (jR 69), some (jI a), some (jI ((j : Int) - 1)), some (jI i0), some (jI x), none, none, none] [] (M3 (tsc P H m b x))) (kn k) l3).trans ?_
  obtain ⟨k3, -⟩ := pics (M3 (tsc P H m b (kn k))) (fun q h1 h2 h3 => (jup_ne h3).trans ((jup_ne h2).trans (jup_ne h1)))
  rw [e_X12_findTurn_3, k3.2.1, if_neg (by omega)]
theorem c_X12_findGame (d : Nat) {μ : jM} {k : Kt} {w : Lw} (hk : KR μ k) (hw : LR μ w) : ∃ μ', CL (d + 6) 292 [jR 69] μ = rV μ' ∧ (∀ q, q ≠ 87 → q ≠ 88 → q ≠ 89 → μ' q = μ q) ∧ ∀ s l, Stt k s l → GT μ' k w s l := by
  have hko := hk.1
  have h10 := hko.1
  have hN := p2_le h10
  have pics : ∀ μ1 : jM, (∀ q, q ≠ 87 → q ≠ 88 → q ≠ 89 → μ1 q = μ q) → KR μ1 k ∧ LR μ1 w := fun μ1 f => ⟨KR_cg hk (fun q _ _ => f q (by omega) (by omega) (by omega)) (by rw [f 69 (by decide) (by decide) (by decide)]) (by rw [f 69 (by decide) (by decide) (by decide)]), LR_cg hw (f 70 (by decide) (by decide) (by decide)) (by rw [f 69 (by decide) (by decide) (by decide)]) (by rw [f 69 (by decide) (by decide) (by decide)]) (by rw [f 69 (by decide) (by decide) (by decide)])⟩
  let J : Nat → Nat → jM → Prop := fun a j μ1 => (∀ q, q ≠ 87 → q ≠ 88 → q ≠ 89 → μ1 q = μ q) ∧ ∀ s l, Stt k s l → (a < s ∨ s = a ∧ ∃ j', j' < j ∧ l = lx j') → GT μ1 k w s l
  have l2 : ∀ a, a < 2 ^ kn k → ∀ μ1, J a 0 μ1 → ∃ μ2, EV (d + 5) T_X12_findGame 2 [some (jR 69), some (jI a), some (jI (-1))] [] μ1 = EV (d + 5) T_X12_findGame 1 [some (jR 69), some (jI ((a : Int) - 1)), none] [] μ2 ∧ J a (kn k + 1) μ2 := by
    intro a ha μ1 hJ
    obtain ⟨μ2, e2, j2⟩ := lp_i (fun (j : Nat) (μ1 : jM) => EV (d + 5) T_X12_findGame 2 [some (jR 69), some (jI a), some (jI ((j : Int) - 1))] [] μ1) (fun j μ1 => J a j μ1) (kn k + 1) (fun j μ1 hj hJ => by
      obtain ⟨hk1, hw1⟩ := pics μ1 hJ.1
      have hjx := lx_le (show j ≤ kn k by omega) h10
      show ∃ s', EV (d + 5) T_X12_findGame 2 _ [] μ1 = _ ∧ _
      rw [e_X12_findGame_2, hk1.2.1, if_pos (by omega), x_isState _ _ a j (by omega) (by omega), bI_r]
      cases hi : ist a (lx j) with
      | false =>
        rw [z_f, x_inc _ (by omega)]
        refine ⟨μ1, rfl, hJ.1, fun s l hs hc => hJ.2 s l hs ?_⟩
        rcases hc with z | ⟨z, j', z2, z3⟩
        · exact Or.inl z
        · refine Or.inr ⟨z, j', ?_, z3⟩
          by_cases hjj : j' = j
          · rw [hjj] at z3
            have h5 := hs.2.2
            rw [z, z3, hi] at h5
            cases h5
          · omega
      | true =>
        have hst : Stt k a (lx j) := ⟨ha, lx_kn hj, hi⟩
        have hjk : j ≤ kn k := by omega
        rw [z_t, c_X12_findTurn _ hk1 hw1 a j hjk hst (fun x hx => hJ.2 _ _ (SS_stt hko ha hx).1 (Or.inl (or_gt (SS_i hx).2.2.2))), bV_r, x_inc _ (by omega)]
        refine ⟨_, rfl, fun q h1 h2 h3 => (jup_ne h3).trans ((jup_ne h2).trans ((jup_ne h1).trans (hJ.1 q h1 h2 h3))), fun s l hs hc => ?_⟩
        have hl := Sok_10 hko (ist_S hko hs)
        by_cases h1 : s = a ∧ l = lx j
        · obtain ⟨rfl, rfl⟩ := h1
          refine ⟨?_, ?_, jup_r _ _ _ _⟩
          · rw [jup_ne (by decide), jup_ne (by decide)]
            exact jup_r _ _ _ _
          · rw [jup_ne (by decide)]
            exact jup_r _ _ _ _
        · have hne : ((11 * s + l : Nat) : Int) ≠ ((11 * a + lx j : Nat) : Int) := by omega
          obtain ⟨g1, g2, g3⟩ := hJ.2 s l hs (by
            rcases hc with z | ⟨z, j', z2, z3⟩
            · exact Or.inl z
            · refine Or.inr ⟨z, j', ?_, z3⟩
              by_cases hjj : j' = j
              · rw [hjj] at z3
                exact absurd ⟨z, z3⟩ h1
              · omega)
          refine ⟨?_, ?_, ?_⟩
          · rw [jup_ne (by decide), jup_ne (by decide), jup_m hne]
            exact g1
          · rw [jup_ne (by decide), jup_m hne, jup_ne (by decide)]
            exact g2
          · rw [jup_m hne, jup_ne (by decide), jup_ne (by decide)]
            exact g3) μ1 hJ
    refine ⟨μ2, e2.trans ?_, j2⟩
    show EV (d + 5) T_X12_findGame 2 _ [] μ2 = _
    obtain ⟨hk1, hw1⟩ := pics μ2 j2.1
    rw [e_X12_findGame_2, hk1.2.1, if_neg (by omega), w_id (by omega) (by omega)]
    rfl
  obtain ⟨μ2, e2, j2⟩ := lp_j (fun (i : Nat) (μ1 : jM) => EV (d + 5) T_X12_findGame 1 [some (jR 69), some (jI ((i : Int) - 1)), none] [] μ1) (fun i μ1 => (∀ q, q ≠ 87 → q ≠ 88 → q ≠ 89 → μ1 q = μ q) ∧ ∀ s l, Stt k s l → i ≤ s → GT μ1 k w s l) (2 ^ kn k) (fun a μ1 ha hI => by
    obtain ⟨μ2, e2, j2⟩ := l2 a ha μ1 ⟨hI.1, fun s l hs hc => hI.2 s l hs (by
      rcases hc with z | ⟨_, j', z2, _⟩
      · omega
      · omega)⟩
    refine ⟨μ2, Eq.trans ?_ e2, j2.1, fun s l hs hc => j2.2 s l hs ?_⟩
    · show EV (d + 5) T_X12_findGame 1 _ [] μ1 = _
      have e1 : ((a + 1 : Nat) : Int) - 1 = (a : Int) := by omega
      rw [e1, e_X12_findGame_1, if_neg (by omega)]
    · by_cases h1 : s = a
      · refine Or.inr ⟨h1, ?_⟩
        rcases hs.2.1 with z | z
        · exact ⟨0, by omega, by rw [z]; rfl⟩
        · exact ⟨l + 1, by omega, (lx_s l).symm⟩
      · exact Or.inl (by omega)) μ ⟨fun _ _ _ _ => rfl, fun s l hs hc => by have := hs.1; omega⟩
  have h2p := Nat.two_pow_pos (kn k)
  refine ⟨μ2, ?_, j2.1, fun s l hs => j2.2 s l hs (Nat.zero_le s)⟩
  rw [e_X12_findGame, c_X12_all _ hk, bI_r]
  have e1 : ((2 ^ kn k - 1 : Nat) : Int) = ((2 ^ kn k : Nat) : Int) - 1 := by omega
  rw [e1]
  refine Eq.trans e2 ?_
  show EV (d + 5) T_X12_findGame 1 [some (jR 69), some (jI (-1)), none] [] μ2 = _
  rw [e_X12_findGame_1, if_pos (by decide)]
theorem c_X12_game (d : Nat) {μ : jM} {k : Kt} {w : Lw} {b : List Nat} (hk : KR μ k) (hw : LR μ w) (hb : SR μ b) (hbk : Bok (kn k) b) : ∃ μ', CL (d + 7) 294 [jR 69] μ = rI (if (gtr k w (bset b) (bla b)).1 then 1 else 0) μ' ∧ fRf μ' (jup μ 69 20 0) ∧ RR μ' [if (gtr k w (bset b) (bla b)).1 then (gtr k w (bset b) (bla b)).2.2 else -1, (gtr k w (bset b) (bla b)).2.1] := by
  have hko := hk.1
  have h10 := hko.1
  have hN := p2_le h10
  have hS0 := Sok_b hbk
  have hs0 := hS0.1
  have hl0 := Sok_10 hko hS0
  have hk0 := th0_KR hk
  have hw0 := th0_LR hw
  have hb0 := th0_SR hb
  obtain ⟨μ1, e1, f1, t1⟩ := c_X12_findGame d hk0 hw0
  have g1 : fRf μ1 (jup μ 69 20 0) := ⟨fun q hq => f1 q (by omega) (by omega) (by omega), fun j _ => by rw [f1 69 (by decide) (by decide) (by decide)]⟩
  have b1 := fRf_SR g1 hb0
  obtain ⟨v1, v2, v3⟩ := t1 _ _ (S_ist hko hS0)
  let i0 : Int := ((11 * bset b + bla b : Nat) : Int)
  have hi0 : 0 ≤ i0 ∧ i0 < 11264 := by
    show 0 ≤ ((11 * bset b + bla b : Nat) : Int) ∧ ((11 * bset b + bla b : Nat) : Int) < 11264
    omega
  let μ2 : jM := jup μ1 69 19 0
  have w87 : μ2 87 i0 = if (gtr k w (bset b) (bla b)).1 then 1 else 0 := (congrFun (jup_ne (by decide)) _).trans v1
  rw [e_X12_game, e1, bV_r, c_X12_servedSet _ b1, bI_r, c_X12_servedLast _ b1, bI_r, c_X12_place _ _ _ _ (by omega) hl0, bI_r, gd_t hi0]
  show ∃ μ', (if μ2 87 i0 = 0 then _ else _) = _ ∧ _
  rw [w87]
  have key : ∀ v : Int, ∃ μ', (bV (CL (d + 6) 209 [jR 69, jI v] μ2) fun μ5 => gd (0 ≤ i0 ∧ i0 < 11264) (bV (CL (d + 6) 209 [jR 69, jI (μ5 88 i0)] μ5) fun μ6 => gd (0 ≤ i0 ∧ i0 < 11264) (if (μ6 87 i0) = 0 then rI 0 μ6 else rI 1 μ6))) = rI (if (gtr k w (bset b) (bla b)).1 then 1 else 0) μ' ∧ fRf μ' (jup μ 69 20 0) ∧ RR μ' [v, (gtr k w (bset b) (bla b)).2.1] := fun v => by
    obtain ⟨μ3, e3, f3, g3, r3⟩ := c_X12_tell (d + 5) (RR_0 μ1) v (by simp)
    have u88 : μ3 88 i0 = (gtr k w (bset b) (bla b)).2.1 := by
      rw [f3 88 (by decide) (by decide)]
      exact (congrFun (jup_ne (by decide)) _).trans v2
    obtain ⟨μ4, e4, f4, g4, r4⟩ := c_X12_tell (d + 5) r3 (gtr k w (bset b) (bla b)).2.1 (by simp)
    have u87 : μ4 87 i0 = if (gtr k w (bset b) (bla b)).1 then 1 else 0 := by
      rw [f4 87 (by decide) (by decide), f3 87 (by decide) (by decide)]
      exact w87
    refine ⟨μ4, ?_, fRf_t g1 (fRf_t (fRf_0 μ1) ⟨fun q hq => (f4 q (by omega) (by omega)).trans (f3 q (by omega) (by omega)), fun j hj => (g4 j hj).trans (g3 j hj)⟩), r4⟩
    rw [show CL (d + 6) 209 [jR 69, jI v] μ2 = rV μ3 from e3, bV_r, gd_t hi0, u88, e4, bV_r, gd_t hi0, u87]
    cases (gtr k w (bset b) (bla b)).1 <;> rfl
  cases hs : (gtr k w (bset b) (bla b)).1 with
  | false =>
    rw [z_f]
    have := key (-1)
    rw [hs] at this
    exact this
  | true =>
    rw [z_t, gd_t hi0]
    have h89 : μ2 89 i0 = (gtr k w (bset b) (bla b)).2.2 := (congrFun (jup_ne (by decide)) _).trans v3
    have := key (gtr k w (bset b) (bla b)).2.2
    rw [hs] at this
    show ∃ μ', (bV (CL _ _ [jR 69, jI (μ2 89 i0)] μ2) _) = _ ∧ _
    rw [h89]
    exact this
