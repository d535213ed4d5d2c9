/-! ## how many rows there are -/
def nw (k : Kt) (w : Lw) (A : Ap) (s0 l0 : Nat) : Nat → Nat → Nat → Int
  | 0, s, l => if s == s0 && l == l0 then 1 else 0
  | m + 1, s, l => if decide (l < kn k) && s.testBit l then sm (fun l' => if stp k w A m (nd s (2 ^ l)) l' l then nw k w A s0 l0 m (nd s (2 ^ l)) l' else 0) 11 else 0
def nwr (k : Kt) (w : Lw) (A : Ap) (s0 l0 s l : Nat) : Int := nw k w A s0 l0 (pc s - pc s0) s l
theorem sm_0 {f : Nat → Int} : ∀ {n : Nat}, (∀ i, i < n → f i = 0) → sm f n = 0
  | 0, _ => rfl
  | n + 1, h => by
    show sm f n + f n = 0
    rw [sm_0 (fun i hi => h i (by omega)), h n (by omega)]
    rfl
theorem sm_ge {f : Nat → Int} : ∀ {n : Nat}, (∀ i, i < n → 0 ≤ f i) → 0 ≤ sm f n
  | 0, _ => Int.le_refl 0
  | n + 1, h => by
    have h1 := sm_ge (n := n) (fun i hi => h i (by omega))
    have h2 := h n (by omega)
    show 0 ≤ sm f n + f n
    omega
theorem sm_pos {f : Nat → Int} {i : Nat} (hi : 0 < f i) : ∀ {n : Nat}, (∀ i, i < n → 0 ≤ f i) → i < n → 0 < sm f n
  | 0, _, h => absurd h (Nat.not_lt_zero i)
  | n + 1, h, hn => by
    have h2 := h n (by omega)
    show 0 < sm f n + f n
    by_cases e : i = n
    · have h1 := sm_ge (n := n) (fun i hi => h i (by omega))
      rw [e] at hi
      omega
    · have h1 := sm_pos hi (n := n) (fun i hi => h i (by omega)) (by omega)
      omega
theorem nw_ge (k : Kt) (w : Lw) (A : Ap) (s0 l0 : Nat) : ∀ m s l, 0 ≤ nw k w A s0 l0 m s l
  | 0, s, l => by
    show 0 ≤ (if s == s0 && l == l0 then (1 : Int) else 0)
    split <;> decide
  | m + 1, s, l => by
    show 0 ≤ (if decide (l < kn k) && s.testBit l then sm (fun l' => if stp k w A m (nd s (2 ^ l)) l' l then nw k w A s0 l0 m (nd s (2 ^ l)) l' else 0) 11 else 0)
    split
    · exact sm_ge (fun i _ => by
        show 0 ≤ (if stp k w A m (nd s (2 ^ l)) i l then nw k w A s0 l0 m (nd s (2 ^ l)) i else 0)
        split
        · exact nw_ge k w A s0 l0 m _ _
        · exact Int.le_refl 0)
    · exact Int.le_refl 0
theorem nw_rc (k : Kt) (w : Lw) (A : Ap) (s0 l0 : Nat) : ∀ m s l, decide (0 < nw k w A s0 l0 m s l) = rc k w A s0 l0 m s l
  | 0, s, l => by
    show decide (0 < (if (s == s0 && l == l0) then (1 : Int) else 0)) = (s == s0 && l == l0)
    cases (s == s0 && l == l0) <;> rfl
  | m + 1, s, l => by
    show decide (0 < (if (decide (l < kn k) && s.testBit l) then sm _ 11 else (0 : Int))) = ((decide (l < kn k) && s.testBit l) && anb _ 11)
    cases (decide (l < kn k) && s.testBit l) with
    | false => rfl
    | true =>
      rw [if_pos rfl, Bool.true_and]
      have hz : ∀ l', (if stp k w A m (nd s (2 ^ l)) l' l then nw k w A s0 l0 m (nd s (2 ^ l)) l' else 0) ≥ 0 := fun l' => by
        split
        · exact nw_ge k w A s0 l0 m _ _
        · exact Int.le_refl 0
      cases ha : anb (fun l' => rc k w A s0 l0 m (nd s (2 ^ l)) l' && stp k w A m (nd s (2 ^ l)) l' l) 11 with
      | true =>
        obtain ⟨l', h1, h2⟩ := anb_iff.mp ha
        rw [Bool.and_eq_true] at h2
        rw [decide_eq_true_eq]
        refine sm_pos (i := l') ?_ (fun i _ => hz i) h1
        rw [if_pos h2.2]
        have := nw_rc k w A s0 l0 m (nd s (2 ^ l)) l'
        rw [h2.1, decide_eq_true_eq] at this
        exact this
      | false =>
        rw [decide_eq_false_iff_not, sm_0 (fun l' h1 => ?_)]
        · decide
        · have h2 := anb_f ha h1
          cases hs : stp k w A m (nd s (2 ^ l)) l' l with
          | false => exact if_neg (by decide)
          | true =>
            rw [hs, Bool.and_true, ← nw_rc k w A s0 l0 m, decide_eq_false_iff_not] at h2
            have := nw_ge k w A s0 l0 m (nd s (2 ^ l)) l'
            rw [if_pos rfl]
            omega
theorem nw_no {k : Kt} {w : Lw} {A : Ap} {s0 l0 m s l : Nat} (h : rc k w A s0 l0 m s l = false) : nw k w A s0 l0 m s l = 0 := by
  have h1 := nw_ge k w A s0 l0 m s l
  rw [← nw_rc, decide_eq_false_iff_not] at h
  omega
/-- not too many -/
def fb (c : Nat) : Nat → Nat
  | 0 => 1
  | m + 1 => fb c m * max 1 (c + m)
theorem fb_le : ∀ c, c < 11 → ∀ m, m < 11 → c + m ≤ 10 → fb c m ≤ 362880 := by decide
theorem sm_cnt {f : Nat → Int} {P : Nat → Bool} {B : Int} (hB : 0 ≤ B) : ∀ n : Nat, (∀ i, i < n → f i ≤ if P i then B else 0) → sm f n ≤ (cnt P n : Nat) * B
  | 0, _ => by simp [sm, cnt]
  | n + 1, h => by
    have h1 := sm_cnt hB n (fun i hi => h i (by omega))
    have h2 := h n (by omega)
    show sm f n + f n ≤ ((cnt P n + (if P n then 1 else 0) : Nat) : Int) * B
    cases hp : P n with
    | true =>
      rw [hp, if_pos rfl] at h2
      rw [if_pos rfl, Int.natCast_succ, Int.add_mul, Int.one_mul]
      omega
    | false =>
      rw [hp, if_neg (by decide)] at h2
      rw [if_neg (by decide), Nat.add_zero]
      omega
theorem nw_fb {k : Kt} (hk : Kok k) {w : Lw} {A : Ap} {s0 l0 : Nat} (h0 : Sok k s0 l0) : ∀ m s l, nw k w A s0 l0 m s l ≤ (fb (pc s0) m : Nat)
  | 0, s, l => by
    show (if s == s0 && l == l0 then (1 : Int) else 0) ≤ 1
    split <;> decide
  | m + 1, s, l => by
    have ih := fun l' => nw_fb hk (w := w) (A := A) h0 m (nd s (2 ^ l)) l'
    have hpos : (0 : Int) ≤ (fb (pc s0) (m + 1) : Nat) := Int.natCast_nonneg _
    show (if decide (l < kn k) && s.testBit l then sm (fun l' => if stp k w A m (nd s (2 ^ l)) l' l then nw k w A s0 l0 m (nd s (2 ^ l)) l' else 0) 11 else 0) ≤ _
    split
    case isFalse => exact hpos
    case isTrue =>
      cases ha : anb (fun l' => rc k w A s0 l0 m (nd s (2 ^ l)) l') 11 with
      | false =>
        rw [sm_0 (fun l' h1 => ?_)]
        · exact hpos
        · rw [nw_no (anb_f ha h1)]
          split <;> rfl
      | true =>
        obtain ⟨l1, -, h2⟩ := anb_iff.mp ha
        have hst := rc_ok hk h0 _ _ _ h2
        let p := nd s (2 ^ l)
        let P : Nat → Bool := fun l' => if p = 0 then l' == 10 else p.testBit l'
        have hp11 : p < 2 ^ 11 := Nat.lt_of_lt_of_le hst.1.1 (p2_le (by have := hk.1; omega))
        have hcnt : cnt P 11 ≤ max 1 (pc s0 + m) := by
          by_cases hp : p = 0
          · have : cnt P 11 = cnt (fun l' => l' == 10) 11 := cnt_cg (fun i _ => by show (if p = 0 then _ else _) = _; rw [if_pos hp])
            rw [this, show cnt (fun l' => l' == 10) 11 = 1 from by decide]
            omega
          · have : cnt P 11 = cnt (fun l' => p.testBit l') 11 := cnt_cg (fun i _ => by show (if p = 0 then _ else _) = _; rw [if_neg hp])
            rw [this, ← pc_cnt hp11 (by decide), ← hst.2]
            exact Nat.le_max_right _ _
        refine Int.le_trans (sm_cnt (P := P) (B := (fb (pc s0) m : Nat)) (Int.natCast_nonneg _) 11 (fun l' _ => ?_)) ?_
        · cases hr : rc k w A s0 l0 m p l' with
          | false =>
            rw [show nw k w A s0 l0 m (nd s (2 ^ l)) l' = 0 from nw_no hr]
            have : (0 : Int) ≤ (fb (pc s0) m : Nat) := Int.natCast_nonneg _
            split <;> split <;> omega
          | true =>
            have hst2 := (rc_ok hk h0 _ _ _ hr).1
            have hP : P l' = true := by
              show (if p = 0 then _ else _) = true
              rcases hst2.2 with z | z
              · rw [if_pos z.2, z.1]
                rfl
              · have : p ≠ 0 := fun y => by
                  rw [y, Nat.zero_testBit] at z
                  cases z.2
                rw [if_neg this]
                exact z.2
            rw [hP, if_pos rfl]
            have := ih l'
            have h9 : (0 : Int) ≤ (fb (pc s0) m : Nat) := Int.natCast_nonneg _
            split
            · exact this
            · exact h9
        · show ((cnt P 11 : Nat) : Int) * (fb (pc s0) m : Nat) ≤ ((fb (pc s0) m * max 1 (pc s0 + m) : Nat) : Int)
          rw [← Int.natCast_mul]
          have : cnt P 11 * fb (pc s0) m ≤ fb (pc s0) m * max 1 (pc s0 + m) := by
            rw [Nat.mul_comm]
            exact Nat.mul_le_mul_left _ hcnt
          exact_mod_cast this
theorem nw_b {k : Kt} (hk : Kok k) {w : Lw} {A : Ap} {s0 l0 : Nat} (h0 : Sok k s0 l0) (m s l : Nat) : 0 ≤ nw k w A s0 l0 m s l ∧ nw k w A s0 l0 m s l ≤ 362880 := by
  refine ⟨nw_ge _ _ _ _ _ _ _ _, ?_⟩
  cases hr : rc k w A s0 l0 m s l with
  | false =>
    rw [nw_no hr]
    decide
  | true =>
    have hst := rc_ok hk h0 _ _ _ hr
    have h10 := hk.1
    have h1 := pc_le hst.1.1 (by omega)
    have h2 := nw_fb hk (w := w) (A := A) h0 m s l
    have h3 := fb_le (pc s0) (by omega) m (by omega) (by omega)
    omega
theorem nwr_b {k : Kt} (hk : Kok k) {w : Lw} {A : Ap} {s0 l0 : Nat} (h0 : Sok k s0 l0) (s l : Nat) : 0 ≤ nwr k w A s0 l0 s l ∧ nwr k w A s0 l0 s l ≤ 362880 := nw_b hk h0 _ _ _
theorem nwr_rr (k : Kt) (w : Lw) (A : Ap) (s0 l0 s l : Nat) : decide (0 < nwr k w A s0 l0 s l) = rr k w A s0 l0 s l := nw_rc _ _ _ _ _ _ _ _
theorem nwr_no {k : Kt} {w : Lw} {A : Ap} {s0 l0 s l : Nat} (h : rr k w A s0 l0 s l = false) : nwr k w A s0 l0 s l = 0 := nw_no h
theorem nwr_0 (k : Kt) (w : Lw) (A : Ap) (s0 l0 l : Nat) : nwr k w A s0 l0 s0 l = if l = l0 then 1 else 0 := by
  unfold nwr
  rw [Nat.sub_self]
  show (if (s0 == s0 && l == l0) then (1 : Int) else 0) = _
  by_cases h : l = l0
  · simp [h]
  · simp [h]
theorem nwr_s {k : Kt} (hk : Kok k) {w : Lw} {A : Ap} {s0 l0 : Nat} (h0 : Sok k s0 l0) {s x : Nat} (hs : s < 2 ^ kn k) (hx : x < kn k) (hb : s.testBit x = false) (hne : s ||| 2 ^ x ≠ s0) : nwr k w A s0 l0 (s ||| 2 ^ x) x = sm (fun l' => if SS k w A s0 s l' x then nwr k w A s0 l0 s l' else 0) 11 := by
  have e := pc_or1 (by have := hk.1; omega) hs hx hb
  have hb2 : (s ||| 2 ^ x).testBit x = true := by simp [Nat.testBit_or, Nat.testBit_two_pow]
  by_cases hlt : pc s0 ≤ pc s
  · unfold nwr
    rw [e, show pc s + 1 - pc s0 = (pc s - pc s0) + 1 by omega]
    show (if decide (x < kn k) && (s ||| 2 ^ x).testBit x then sm _ 11 else 0) = _
    rw [hb2, decide_eq_true hx, or_nd hb]
    rfl
  · have hno : ∀ l', rr k w A s0 l0 s l' = false := fun l' => by
      cases hr : rr k w A s0 l0 s l' with
      | false => rfl
      | true => exact absurd (rr_pc hk h0 hr) hlt
    have h2 : rr k w A s0 l0 (s ||| 2 ^ x) x = false := by
      rw [rr_s hk h0 hs hx hb hne]
      cases hz : anb (fun l' => rr k w A s0 l0 s l' && stp k w A (pc s - pc s0) s l' x) 11 with
      | false => rfl
      | true =>
        obtain ⟨l', -, h3⟩ := anb_iff.mp hz
        rw [hno l', Bool.false_and] at h3
        cases h3
    rw [nwr_no h2, sm_0 (fun l' _ => by rw [nwr_no (hno l')]; split <;> rfl)]
/-! ## tables of the reference: by a set and its last one -/
theorem tab_up {μ : jM} {p : Nat} {s l t m : Nat} {v : Int} (hl : l ≤ 10) (hm : m ≤ 10) : jup μ p ((11 * s + l : Nat) : Int) v p ((11 * t + m : Nat) : Int) = if t = s ∧ m = l then v else μ p ((11 * t + m : Nat) : Int) := by
  by_cases h : t = s ∧ m = l
  · obtain ⟨rfl, rfl⟩ := h
    rw [jup_r, if_pos ⟨rfl, rfl⟩]
  · rw [if_neg h, jup_m (by omega)]
/-- the reference's order of the last ones: none, then 0 .. -/
def lx (j : Nat) : Nat := if j = 0 then 10 else j - 1
theorem lx_le {j n : Nat} (hj : j ≤ n) (hn : n ≤ 10) : lx j ≤ 10 := by
  unfold lx
  split <;> omega
theorem lx_s (j : Nat) : lx (j + 1) = j := by
  unfold lx
  rw [if_neg (by omega)]
  omega
theorem lno_lx {j : Nat} (hj : j ≤ 10) : lno (lx j) = (j : Int) - 1 := by
  unfold lno lx
  by_cases h : j = 0
  · rw [if_pos h, if_pos rfl, h]
    rfl
  · rw [if_neg h, if_neg (by omega)]
    omega
/-- sums in that order -/
def sx (f : Nat → Int) : Nat → Int
  | 0 => 0
  | j + 1 => sx f j + f (lx j)
theorem sx_sm (f : Nat → Int) : ∀ j, sx f (j + 1) = sm f j + f 10
  | 0 => rfl
  | j + 1 => by
    show sx f (j + 1) + f (lx (j + 1)) = sm f j + f j + f 10
    rw [sx_sm f j, lx_s]
    omega
theorem sm_hi {f : Nat → Int} {n : Nat} : ∀ {m : Nat}, n ≤ m → (∀ i, n ≤ i → i < m → f i = 0) → sm f m = sm f n
  | 0, h, _ => by
    have : n = 0 := by omega
    rw [this]
  | m + 1, h, hp => by
    by_cases e : n = m + 1
    · rw [e]
    · show sm f m + _ = _
      rw [sm_hi (by omega) (fun i h1 h2 => hp i h1 (by omega)), hp m (by omega) (by omega)]
      omega
theorem sx_11 {f : Nat → Int} {n : Nat} (hn : n ≤ 10) (h : ∀ i, n ≤ i → i < 10 → f i = 0) : sx f (n + 1) = sm f 11 := by
  rw [sx_sm]
  show _ = sm f 10 + f 10
  rw [sm_hi hn h]
theorem sx_b {f : Nat → Int} {B : Int} (h : ∀ i, 0 ≤ f i ∧ f i ≤ B) : ∀ n : Nat, 0 ≤ sx f n ∧ sx f n ≤ n * B
  | 0 => by simp [sx]
  | n + 1 => by
    have h1 := sx_b h n
    have h2 := h (lx n)
    have e : ((n + 1 : Nat) : Int) * B = n * B + B := by
      rw [Int.natCast_succ, Int.add_mul, Int.one_mul]
    rw [e]
    show 0 ≤ sx f n + f (lx n) ∧ sx f n + f (lx n) ≤ n * B + B
    omega
theorem c_X12_noEnds (d : Nat) (μ : jM) : CL (d + 1) 264 [jR 69] μ = rV (jpre μ 83 (fun _ => 0) 11264) := by
  rw [e_X12_noEnds]
  refine Eq.trans ?_ ((lp_0 (fun i : Nat => EV d T_X12_noEnds 1 [some (jR 69), some (jI i)] [] (jpre μ 83 (fun _ => 0) i)) 11264 (fun i hi => ?_)).trans ?_)
  · rw [jpre_0]
    rfl
  · rw [e_X12_noEnds_1, if_pos (by omega), gd_t (by omega), gd_t (by decide), w_s _ (by omega), jpre_s μ 83 (fun _ => 0) i rfl]
  · rw [e_X12_noEnds_1, if_neg (by decide)]
/-- what is a state of the reference -/
def Stt (k : Kt) (s l : Nat) : Prop := s < 2 ^ kn k ∧ (l = 10 ∨ l < kn k) ∧ ist s l = true
theorem ist_S {k : Kt} {s l : Nat} (hk : Kok k) (h : Stt k s l) : Sok k s l := by
  refine ⟨h.1, ?_⟩
  have h3 := h.2.2
  unfold ist at h3
  rcases h.2.1 with z | z
  · rw [if_pos z] at h3
    exact Or.inl ⟨z, by simpa using h3⟩
  · have := hk.1
    rw [if_neg (by omega)] at h3
    exact Or.inr ⟨z, h3⟩
theorem S_ist {k : Kt} {s l : Nat} (hk : Kok k) (h : Sok k s l) : Stt k s l := by
  refine ⟨h.1, ?_⟩
  unfold ist
  rcases h.2 with z | z
  · rw [if_pos z.1, z.2]
    exact ⟨Or.inl z.1, rfl⟩
  · have := hk.1
    rw [if_neg (by omega)]
    exact ⟨Or.inr z.1, z.2⟩
