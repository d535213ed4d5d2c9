/-! ## Plan seeks, leads, tells -/
theorem tb_lt {s n x : Nat} (hs : s < 2 ^ n) (h : s.testBit x = true) : x < n := by
  by_cases hx : x < n
  · exact hx
  · rw [tb_hi hs (by omega)] at h
    cases h
theorem nd_lt2 {s b n : Nat} (hs : s < n) : nd s b < n := Nat.lt_of_le_of_lt (nd_le s b) hs
theorem from_nd (s s0 : Nat) (hs : s < 2147483648) (h0 : s0 < 2147483648) : jand (s : Int) (jxor (s0 : Int) (-1)) = (nd s s0 : Int) := by rw [xor_m1 s0 h0, and_nc s s0 hs h0]
theorem c_X5_worth (d : Nat) {μ : jM} {k : Kt} {w : Lw} {A : Ap} {s0 l0 : Nat} (h : SP μ k w A s0 l0) {n : Nat} {W : Nat → Nat → Int} {L : Nat} {P : Int} {C : Nat → Int} (hp : PI μ k n W L P C) (hW : ∀ i x, i < n → x < kn k → -100000 ≤ W i x ∧ W i x ≤ 100000) (s : Nat) (hs : s < 2 ^ kn k) : CL (d + 2) 85 [jR 36, jR 29, jI s] μ = rI (wo W (nd s s0) n) μ := by
  obtain ⟨hk, h10, h0, hN⟩ := SP_k h
  have h6 := hp.1
  have ht := nd_lt2 (b := s0) hs
  rw [e_X5_worth]
  refine (lp_0 (fun i : Nat => EV (d + 1) T_X5_worth 1 [some (jR 36), some (jR 29), some (jI s), some (jI (wo W (nd s s0) i)), some (jI i)] [] μ) n (fun i hi => ?_)).trans ?_
  · obtain ⟨r1, r2, r3⟩ := RF_37 i (by omega)
    have e1 : ws (fun x => μ (38 + i) x) (nd s s0) = ws (W i) (nd s s0) := ws_cg (fun x _ hx => hp.2.2.2 i x hi (tb_lt ht hx))
    rw [e_X5_worth_1, hp.2.1, if_pos (by omega), if_pos (by omega), gd_t (by omega), c_from _ h, bI_r, from_nd s s0 (by omega) (by omega), r1, c_X5_sum _ μ _ r2 r3 _ (by omega) (fun x _ hx => by rw [hp.2.2.2 i x hi (tb_lt ht hx)]; exact hW i x hi (tb_lt ht hx)), bI_r, w_s _ (by omega), e1]
    rfl
  · rw [e_X5_worth_1, hp.2.1, if_neg (by omega)]
def gl (k : Kt) (w : Lw) (A : Ap) (s0 l0 L : Nat) (P : Int) (C : Nat → Int) (a b : Int) (s : Nat) : Bool := (re k w A s0 l0 s &&& L) != 0 && (decide (a ≤ (pc s : Int) - pc s0) && (decide ((pc s : Int) - pc s0 ≤ b) && (decide (P = 999) || decide (ws C (nd s s0) ≤ P))))
theorem c_X5_isGoal (d : Nat) {μ : jM} {k : Kt} {w : Lw} {A : Ap} {s0 l0 : Nat} (h : SP μ k w A s0 l0) {n : Nat} {W : Nat → Nat → Int} {L : Nat} {P : Int} {C : Nat → Int} (hp : PI μ k n W L P C) (hC : ∀ x, x < 10 → -100000 ≤ C x ∧ C x ≤ 100000) (a b : Int) (s : Nat) (hs : s < 2 ^ kn k) : CL (d + 3) 84 [jR 36, jR 29, jI s, jI a, jI b] μ = rI (if gl k w A s0 l0 L P C a b s then 1 else 0) μ := by
  obtain ⟨hk, h10, h0, hN⟩ := SP_k h
  obtain ⟨-, hn, ⟨hL, hL2, hP, hCC⟩, -⟩ := hp
  have hre := re_lt k w A s0 l0 s
  have ht := nd_lt2 (b := s0) hs
  have hws : ws (fun x => μ 45 x) (nd s s0) = ws C (nd s s0) := ws_cg (fun x hx _ => hCC x hx)
  rw [e_X5_isGoal, c_ends _ h s hs, bI_r, hL, and_nn _ _ (by omega) (by omega)]
  by_cases h1 : re k w A s0 l0 s &&& L = 0
  · have : gl k w A s0 l0 L P C a b s = false := by simp [gl, h1]
    rw [if_pos (by omega), gd_t (by decide), this, if_neg (by decide)]
  · have h1b : ((re k w A s0 l0 s &&& L) != 0) = true := by simpa using h1
    rw [if_neg (by omega), c_more _ h s hs, bI_r]
    by_cases h2 : (pc s : Int) - pc s0 < a
    · have h2b : decide (a ≤ (pc s : Int) - pc s0) = false := decide_eq_false (by omega)
      have : gl k w A s0 l0 L P C a b s = false := by unfold gl; rw [h2b, Bool.false_and, Bool.and_false]
      rw [if_pos h2, gd_t (by decide), this, if_neg (by decide)]
    · have h2b : decide (a ≤ (pc s : Int) - pc s0) = true := decide_eq_true (by omega)
      rw [if_neg h2, c_more _ h s hs, bI_r]
      by_cases h3 : b < (pc s : Int) - pc s0
      · have h3b : decide ((pc s : Int) - pc s0 ≤ b) = false := decide_eq_false (by omega)
        have : gl k w A s0 l0 L P C a b s = false := by unfold gl; rw [h3b, Bool.false_and, Bool.and_false, Bool.and_false]
        rw [if_pos h3, gd_t (by decide), this, if_neg (by decide)]
      · have h3b : decide ((pc s : Int) - pc s0 ≤ b) = true := decide_eq_true (by omega)
        rw [if_neg h3, hP]
        by_cases h4 : P = 999
        · have h4b : decide (P = 999) = true := decide_eq_true h4
          have : gl k w A s0 l0 L P C a b s = true := by unfold gl; rw [h1b, h2b, h3b, h4b]; rfl
          rw [if_pos h4, gd_t (by decide), this, if_pos rfl]
        · have h4b : decide (P = 999) = false := decide_eq_false h4
          rw [if_neg h4, c_from _ h, bI_r, from_nd s s0 (by omega) (by omega), c_X5_sum _ μ 45 (by decide) (by decide) _ (by omega) (fun x hx _ => by rw [hCC x hx]; exact hC x hx), bI_r, hws, hP]
          by_cases h5 : P < ws C (nd s s0)
          · have h5b : decide (ws C (nd s s0) ≤ P) = false := decide_eq_false (by omega)
            have : gl k w A s0 l0 L P C a b s = false := by unfold gl; rw [h1b, h2b, h3b, h4b, h5b]; rfl
            rw [if_pos h5, gd_t (by decide), this, if_neg (by decide)]
          · have h5b : decide (ws C (nd s s0) ≤ P) = true := decide_eq_true (by omega)
            have : gl k w A s0 l0 L P C a b s = true := by unfold gl; rw [h1b, h2b, h3b, h4b, h5b]; rfl
            rw [if_neg h5, gd_t (by decide), this, if_pos rfl]
/-- the most of what v says where Q says yes -/
def mxo (Q : Nat → Bool) (v : Nat → Int) : Nat → Int
  | 0 => -1000000
  | n + 1 => if Q n then max (mxo Q v n) (v n) else mxo Q v n
theorem mxo_none {Q : Nat → Bool} {v : Nat → Int} : ∀ {n : Nat}, (∀ s, s < n → Q s = false) → mxo Q v n = -1000000
  | 0, _ => rfl
  | n + 1, h => by
    show (if Q n then max (mxo Q v n) (v n) else mxo Q v n) = _
    rw [h n (Nat.lt_succ_self n), if_neg (by decide)]
    exact mxo_none (fun s hs => h s (by omega))
theorem mxo_ge {Q : Nat → Bool} {v : Nat → Int} : ∀ {n s : Nat}, s < n → Q s = true → v s ≤ mxo Q v n
  | n + 1, s, hs, hq => by
    show _ ≤ (if Q n then max (mxo Q v n) (v n) else mxo Q v n)
    by_cases h : s = n
    · subst h
      rw [hq, if_pos rfl]
      omega
    · have := mxo_ge (v := v) (show s < n by omega) hq
      split <;> omega
theorem mxo_at {Q : Nat → Bool} {v : Nat → Int} : ∀ {n : Nat}, mxo Q v n ≠ -1000000 → ∃ s, s < n ∧ Q s = true ∧ v s = mxo Q v n
  | 0, h => absurd rfl h
  | n + 1, h => by
    have e : mxo Q v (n + 1) = if Q n then max (mxo Q v n) (v n) else mxo Q v n := rfl
    rw [e] at h ⊢
    cases hq : Q n with
    | false =>
      rw [hq, if_neg (by decide)] at h
      rw [if_neg (by decide)]
      obtain ⟨s, h1, h2, h3⟩ := mxo_at h
      exact ⟨s, by omega, h2, h3⟩
    | true =>
      rw [hq, if_pos rfl] at h
      rw [if_pos rfl]
      by_cases hm : mxo Q v n ≤ v n
      · exact ⟨n, by omega, hq, by omega⟩
      · have e2 : max (mxo Q v n) (v n) = mxo Q v n := by omega
        rw [e2] at h ⊢
        obtain ⟨s, h1, h2, h3⟩ := mxo_at h
        exact ⟨s, by omega, h2, h3⟩
theorem gl_ge {k : Kt} {w : Lw} {A : Ap} {s0 l0 L : Nat} {P : Int} {C : Nat → Int} {a b : Int} {s : Nat} (h : gl k w A s0 l0 L P C a b s = true) : s0 ≤ s := by
  by_cases hs : s < s0
  · unfold gl at h
    rw [re_ge hs, Nat.zero_and] at h
    simp at h
  · omega
theorem c_X5_greatest (d : Nat) {μ : jM} {k : Kt} {w : Lw} {A : Ap} {s0 l0 : Nat} (h : SP μ k w A s0 l0) {n : Nat} {W : Nat → Nat → Int} {L : Nat} {P : Int} {C : Nat → Int} (hp : PI μ k n W L P C) (hW : ∀ i x, i < n → x < kn k → -100000 ≤ W i x ∧ W i x ≤ 100000) (hC : ∀ x, x < 10 → -100000 ≤ C x ∧ C x ≤ 100000) (a b : Int) : CL (d + 4) 82 [jR 36, jR 29, jI a, jI b] μ = rI (mxo (gl k w A s0 l0 L P C a b) (fun s => wo W (nd s s0) n) (2 ^ kn k)) μ := by
  obtain ⟨hk, h10, h0, hN⟩ := SP_k h
  let Q := gl k w A s0 l0 L P C a b
  let v : Nat → Int := fun s => wo W (nd s s0) n
  rw [e_X5_greatest, c_from _ h, bI_r]
  have e0 : mxo Q v s0 = -1000000 := mxo_none (fun s hs => by
    cases hq : Q s with
    | false => rfl
    | true => have := gl_ge hq; omega)
  refine Eq.trans ?_ ((lp_0 (fun j : Nat => EV (d + 3) T_X5_greatest 1 [some (jR 36), some (jR 29), some (jI a), some (jI b), some (jI (mxo Q v (s0 + j))), some (jI (s0 + j : Nat))] [] μ) (2 ^ kn k - s0) (fun j hj => ?_)).trans ?_)
  · show _ = EV (d + 3) T_X5_greatest 1 [some (jR 36), some (jR 29), some (jI a), some (jI b), some (jI (mxo Q v s0)), some (jI s0)] [] μ
    rw [e0]
  · have hs : s0 + j < 2 ^ kn k := by omega
    have e1 : mxo Q v (s0 + (j + 1)) = if Q (s0 + j) then max (mxo Q v (s0 + j)) (v (s0 + j)) else mxo Q v (s0 + j) := rfl
    rw [e_X5_greatest_1, c_sets _ h, bI_r, if_pos (by omega), c_X5_isGoal _ h hp hC a b _ hs, bI_r, w_s _ (by omega), e1]
    show (if (if Q (s0 + j) then (1 : Int) else 0) = 0 then _ else _) = _
    cases hq : Q (s0 + j) with
    | false => exact if_pos rfl
    | true =>
      refine (if_neg (by decide)).trans ?_
      rw [c_X5_worth _ h hp hW _ hs, bI_r]
      rfl
  · have e2 : s0 + (2 ^ kn k - s0) = 2 ^ kn k := by omega
    rw [e2, e_X5_greatest_1, c_sets _ h, bI_r, if_neg (by omega)]
/-! ## marks -/
theorem jpre_idm {μ : jM} {p : Nat} {g : Nat → Int} {n : Nat} (h : ∀ s, s < n → μ p s = g s) : jpre μ p g n = μ := by
  funext q j
  by_cases hq : q = p
  · subst hq
    by_cases hj : 0 ≤ j ∧ j < (n : Int)
    · obtain ⟨m, rfl⟩ := Int.eq_ofNat_of_zero_le hj.1
      rw [jpre_lo (by omega)]
      exact (h m (by omega)).symm
    · unfold jpre
      rw [jfill_eq]
      show (if 0 ≤ j ∧ j < (n : Int) then _ else _) = _
      rw [if_neg hj]
  · rw [jpre_ne hq]
theorem nxt_tb {k : Kt} (hk : Kok k) {w : Lw} {A : Ap} {s0 s l : Nat} (hS : Sok k s l) (hp : pc s0 ≤ pc s) (x : Nat) : (opn k w A s0 s &&& nra k w l).testBit x = SS k w A s0 s l x := by
  rw [Nat.testBit_and]
  by_cases hx : x < kn k
  · rw [nr_sym hk w hx (Sok_l hS |>.imp id (fun z => z.1))]
    exact opn_stp (A := A) (w := w) hk hS.1 (Sok_l hS) hp hx
  · have e1 : (opn k w A s0 s).testBit x = false := by
      unfold opn
      split
      · exact Nat.zero_testBit x
      · rw [bm_tb]
        simp [hx]
    have e2 : SS k w A s0 s l x = false := by
      cases hs : SS k w A s0 s l x with
      | false => rfl
      | true => exact absurd (SS_i hs).1 hx
    rw [e1, e2, Bool.false_and]
theorem nxt_lt {k : Kt} (hk : Kok k) (w : Lw) (A : Ap) (s0 s l : Nat) : opn k w A s0 s &&& nra k w l < 1024 := Nat.lt_of_le_of_lt Nat.and_le_left (opn_lt hk w A s0 s)
theorem mk_lt (k : Kt) (w : Lw) (A : Ap) (s0 l0 : Nat) (G : Nat → Nat → Bool) (m s : Nat) : mk k w A s0 l0 G m s < 2048 := bm_lt _ 11
theorem c_X5_isMarked (d : Nat) (μ : jM) (s x g : Nat) (hs : s < 1024) (hx : x < 11) (hg : g < 2048) (h : μ 44 s = (g : Int)) : CL (d + 1) 88 [jR 36, jI s, jI x] μ = rI (if g.testBit x then 1 else 0) μ := by
  rw [e_X5_isMarked, if_neg (by omega), if_pos (by omega), gd_t (by omega), h, tb_1 g x (by omega) (by omega)]
  cases g.testBit x with
  | true =>
    refine (if_pos rfl).trans ?_
    rw [gd_t (by decide)]
    rfl
  | false =>
    refine (if_neg (by decide)).trans ?_
    rw [gd_t (by decide)]
    rfl
