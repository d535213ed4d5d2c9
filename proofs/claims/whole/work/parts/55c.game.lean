/-! ## two cooks by turns -/
/-- the first of those of a kind with the least value, 10: none -/
def lfo (P : Nat → Bool) (f : Nat → Int) : Nat → Nat
  | 0 => 10
  | n + 1 => if P n && (lfo P f n == 10 || decide (f n < f (lfo P f n))) then n else lfo P f n
theorem lfo_spec (P : Nat → Bool) (f : Nat → Int) : ∀ n, n ≤ 10 → (anb P n = false → lfo P f n = 10) ∧ (anb P n = true → lfo P f n < n ∧ P (lfo P f n) = true ∧ (∀ x, x < n → P x = true → f (lfo P f n) ≤ f x) ∧ ∀ x, x < lfo P f n → P x = true → f (lfo P f n) < f x)
  | 0, _ => ⟨fun _ => rfl, fun h => by cases h⟩
  | n + 1, hn => by
    obtain ⟨h1, h2⟩ := lfo_spec P f n (by omega)
    have ea : anb P (n + 1) = (anb P n || P n) := rfl
    have el : lfo P f (n + 1) = if P n && (lfo P f n == 10 || decide (f n < f (lfo P f n))) then n else lfo P f n := rfl
    rw [ea, el]
    cases hp : P n with
    | false =>
      rw [Bool.false_and, if_neg (by decide), Bool.or_false]
      refine ⟨h1, fun ha => ?_⟩
      obtain ⟨g1, g2, g3, g4⟩ := h2 ha
      refine ⟨by omega, g2, fun x hx hP => ?_, g4⟩
      by_cases e : x = n
      · rw [e, hp] at hP
        cases hP
      · exact g3 x (by omega) hP
    | true =>
      rw [Bool.or_true, Bool.true_and]
      refine ⟨fun z => (by cases z), fun _ => ?_⟩
      cases ha : anb P n with
      | false =>
        rw [h1 ha]
        rw [if_pos (by simp)]
        refine ⟨by omega, hp, fun x hx hP => ?_, fun x hx hP => ?_⟩
        · by_cases e : x = n
          · rw [e]
            exact Int.le_refl _
          · have := anb_f ha (show x < n by omega)
            rw [hP] at this
            cases this
        · have := anb_f ha hx
          rw [hP] at this
          cases this
      | true =>
        obtain ⟨g1, g2, g3, g4⟩ := h2 ha
        have e10 : (lfo P f n == 10) = false := by simp; omega
        rw [e10, Bool.false_or]
        by_cases hlt : f n < f (lfo P f n)
        · rw [decide_eq_true hlt, if_pos rfl]
          refine ⟨by omega, hp, fun x hx hP => ?_, fun x hx hP => ?_⟩
          · by_cases e : x = n
            · rw [e]
              exact Int.le_refl _
            · have := g3 x (by omega) hP
              omega
          · have := g3 x hx hP
            omega
        · rw [decide_eq_false hlt, if_neg (by decide)]
          refine ⟨by omega, g2, fun x hx hP => ?_, g4⟩
          by_cases e : x = n
          · rw [e]
            omega
          · exact g3 x (by omega) hP
theorem lfo_cg {P Q : Nat → Bool} {f g : Nat → Int} {n : Nat} (hn : n ≤ 10) (h : ∀ x, x < n → P x = Q x) (h2 : ∀ x, x < n → P x = true → f x = g x) : lfo P f n = lfo Q g n := by
  induction n with
  | zero => rfl
  | succ n ih =>
    have ih := ih (by omega) (fun x hx => h x (by omega)) (fun x hx => h2 x (by omega))
    have e1 : lfo P f (n + 1) = if P n && (lfo P f n == 10 || decide (f n < f (lfo P f n))) then n else lfo P f n := rfl
    have e2 : lfo Q g (n + 1) = if Q n && (lfo Q g n == 10 || decide (g n < g (lfo Q g n))) then n else lfo Q g n := rfl
    rw [e1, e2, ← ih, ← h n (Nat.lt_succ_self n)]
    cases hp : P n with
    | false => rfl
    | true =>
      rw [← h2 n (Nat.lt_succ_self n) hp]
      by_cases h10 : lfo P f n = 10
      · have : (lfo P f n == 10) = true := by simpa using h10
        rw [this, Bool.true_or, Bool.true_or]
      · cases ha : anb P n with
        | false => exact absurd ((lfo_spec P f n (by omega)).1 ha) h10
        | true =>
          obtain ⟨g1, g2, -, -⟩ := (lfo_spec P f n (by omega)).2 ha
          rw [h2 _ (by omega) g2]
theorem lfo_hi {P : Nat → Bool} {f : Nat → Int} {n : Nat} : ∀ {m : Nat}, n ≤ m → (∀ i, n ≤ i → i < m → P i = false) → lfo P f m = lfo P f n
  | 0, h, _ => by
    have : n = 0 := by omega
    rw [this]
  | m + 1, h, hp => by
    by_cases e : n = m + 1
    · rw [e]
    · have e1 : lfo P f (m + 1) = if P m && (lfo P f m == 10 || decide (f m < f (lfo P f m))) then m else lfo P f m := rfl
      rw [e1, hp m (by omega) (by omega), Bool.false_and, if_neg (by decide)]
      exact lfo_hi (by omega) (fun i h1 h2 => hp i h1 (by omega))
theorem c_X3_leastFor (d : Nat) (μ : jM) (s b : Nat) (hs : s < 1024) (hb : b < 1024) (hor : ∀ x, b.testBit x = true → s ||| 2 ^ x < 1024) : CL (d + 2) 57 [jR 47, jI s, jI b] μ = rI (lno (lfo (fun x => b.testBit x) (fun x => μ 48 ((11 * (s ||| 2 ^ x) + x : Nat) : Int)) 10)) μ := by
  let f : Nat → Int := fun x => μ 48 ((11 * (s ||| 2 ^ x) + x : Nat) : Int)
  let P : Nat → Bool := fun x => b.testBit x
  rw [e_X3_leastFor]
  refine Eq.trans ?_ ((lp_0 (fun i : Nat => EV (d + 1) T_X3_leastFor 1 [some (jR 47), some (jI s), some (jI b), some (jI (lno (lfo P f i))), some (jI i)] [] μ) 10 (fun i hi => ?_)).trans ?_)
  · rfl
  · have h2i := p2_le (show i ≤ 10 by omega)
    have el : lfo P f (i + 1) = if P i && (lfo P f i == 10 || decide (f i < f (lfo P f i))) then i else lfo P f i := rfl
    rw [e_X3_leastFor_1, if_pos (by omega), tb_1 b i (by omega) (by omega), w_s i (by omega), el]
    cases hp : P i with
    | false =>
      rw [show b.testBit i = false from hp]
      rfl
    | true =>
      have hpb : b.testBit i = true := hp
      rw [hpb, if_pos rfl, if_pos rfl, Bool.true_and]
      have hio : i ≠ 10 := by omega
      have eli : lno i = (i : Int) := if_neg hio
      obtain ⟨l1, l2⟩ := lfo_spec P f i (by omega)
      by_cases h10 : lfo P f i = 10
      · have : (lfo P f i == 10) = true := by simpa using h10
        rw [this, Bool.true_or, if_pos rfl, h10, if_pos (show lno 10 = -1 from rfl), eli]
      · have : (lfo P f i == 10) = false := by simpa using h10
        rw [this, Bool.false_or]
        have ha : anb P i = true := by
          cases ha : anb P i with
          | true => rfl
          | false => exact absurd (l1 ha) h10
        obtain ⟨g1, g2, -, -⟩ := l2 ha
        have g2 : b.testBit (lfo P f i) = true := g2
        have h2p := p2_le (show lfo P f i ≤ 10 by omega)
        have ep : lno (lfo P f i) = ((lfo P f i : Nat) : Int) := if_neg h10
        have o1 := hor i hpb
        have o2 := hor _ g2
        rw [ep, if_neg (by omega), shl_1 i (by omega), or_nn s (2 ^ i) (by omega) (by omega), c_X3_value _ μ _ i o1 (by omega), bI_r, shl_1 _ (by omega), or_nn s (2 ^ lfo P f i) (by omega) (by omega), c_X3_value _ μ _ _ o2 (by omega), bI_r]
        show (if f i < f (lfo P f i) then _ else _) = _
        by_cases hlt : f i < f (lfo P f i)
        · rw [if_pos hlt, decide_eq_true hlt, if_pos rfl, eli]
        · rw [if_neg hlt, decide_eq_false hlt, if_neg (by decide), ep]
  · rw [e_X3_leastFor_1, if_neg (by decide)]
/-- what a place in the game is worth to who is on turn -/
def gv (k : Kt) (w : Lw) (s0 : Nat) : Nat → Nat → Nat → Int
  | 0, s, _ => (pc s : Int) - pc s0 - 100
  | r + 1, s, l => if lfo (fun x => SS k w (fun _ _ => true) 0 s l x) (fun x => gv k w s0 r (s ||| 2 ^ x) x) 10 = 10 then (pc s : Int) - pc s0 - 100 else -gv k w s0 r (s ||| 2 ^ lfo (fun x => SS k w (fun _ _ => true) 0 s l x) (fun x => gv k w s0 r (s ||| 2 ^ x) x) 10) (lfo (fun x => SS k w (fun _ _ => true) 0 s l x) (fun x => gv k w s0 r (s ||| 2 ^ x) x) 10)
def gvr (k : Kt) (w : Lw) (s0 s l : Nat) : Int := gv k w s0 (10 - pc s) s l
/-- with which one it goes on -/
def gp (k : Kt) (w : Lw) (s0 s l : Nat) : Nat := lfo (fun x => SS k w (fun _ _ => true) 0 s l x) (fun x => gvr k w s0 (s ||| 2 ^ x) x) 10
theorem gvr_s {k : Kt} (hk : Kok k) (w : Lw) (s0 : Nat) {s l : Nat} (hs : s < 2 ^ kn k) : gvr k w s0 s l = if gp k w s0 s l = 10 then (pc s : Int) - pc s0 - 100 else -gvr k w s0 (s ||| 2 ^ gp k w s0 s l) (gp k w s0 s l) := by
  have h10 := hk.1
  have hp := pc_le hs (by omega)
  unfold gvr gp
  by_cases h : pc s = 10
  · have hno : lfo (fun x => SS k w (fun _ _ => true) 0 s l x) (fun x => gvr k w s0 (s ||| 2 ^ x) x) 10 = 10 := by
      refine (lfo_spec _ _ 10 (by decide)).1 ?_
      cases ha : anb (fun x => SS k w (fun _ _ => true) 0 s l x) 10 with
      | false => rfl
      | true =>
        obtain ⟨x, -, hx⟩ := anb_iff.mp ha
        obtain ⟨h1, h2⟩ := SS_stt hk hs hx
        have := pc_le h1.1 (by omega)
        omega
    rw [hno, if_pos rfl, h]
    show (pc s : Int) - pc s0 - 100 = _
    rw [h]
  · have e : 10 - pc s = (10 - (pc s + 1)) + 1 := by omega
    have el : lfo (fun x => SS k w (fun _ _ => true) 0 s l x) (fun x => gv k w s0 (10 - (pc s + 1)) (s ||| 2 ^ x) x) 10 = lfo (fun x => SS k w (fun _ _ => true) 0 s l x) (fun x => gvr k w s0 (s ||| 2 ^ x) x) 10 := lfo_cg (by decide) (fun _ _ => rfl) (fun x _ hx => by
      unfold gvr
      rw [(SS_stt hk hs hx).2])
    rw [e]
    show (if lfo _ (fun x => gv k w s0 (10 - (pc s + 1)) (s ||| 2 ^ x) x) 10 = 10 then _ else -gv k w s0 (10 - (pc s + 1)) _ _) = _
    rw [el]
    by_cases hn : lfo (fun x => SS k w (fun _ _ => true) 0 s l x) (fun x => gvr k w s0 (s ||| 2 ^ x) x) 10 = 10
    · rw [if_pos hn, if_pos hn]
    · rw [if_neg hn, if_neg hn]
      have hx : SS k w (fun _ _ => true) 0 s l (lfo (fun x => SS k w (fun _ _ => true) 0 s l x) (fun x => gvr k w s0 (s ||| 2 ^ x) x) 10) = true := by
        cases ha : anb (fun x => SS k w (fun _ _ => true) 0 s l x) 10 with
        | false => exact absurd ((lfo_spec _ _ 10 (by decide)).1 ha) hn
        | true => exact ((lfo_spec _ (fun x => gvr k w s0 (s ||| 2 ^ x) x) 10 (by decide)).2 ha).2.1
      rw [(SS_stt hk hs hx).2]
theorem gp_S {k : Kt} {w : Lw} {s0 s l : Nat} (h : gp k w s0 s l ≠ 10) : gp k w s0 s l < 10 ∧ SS k w (fun _ _ => true) 0 s l (gp k w s0 s l) = true := by
  unfold gp at h ⊢
  cases ha : anb (fun x => SS k w (fun _ _ => true) 0 s l x) 10 with
  | false => exact absurd ((lfo_spec _ _ 10 (by decide)).1 ha) h
  | true =>
    obtain ⟨g1, g2, -, -⟩ := (lfo_spec (fun x => SS k w (fun _ _ => true) 0 s l x) (fun x => gvr k w s0 (s ||| 2 ^ x) x) 10 (by decide)).2 ha
    exact ⟨g1, g2⟩
theorem gv_b {k : Kt} (hk : Kok k) (w : Lw) (s0 : Nat) (h0 : pc s0 ≤ 10) : ∀ r s l, s < 2 ^ kn k → -200 ≤ gv k w s0 r s l ∧ gv k w s0 r s l ≤ 200
  | 0, s, l, hs => by
    have := pc_le hs (by have := hk.1; omega)
    have := hk.1
    show -200 ≤ (pc s : Int) - pc s0 - 100 ∧ (pc s : Int) - pc s0 - 100 ≤ 200
    omega
  | r + 1, s, l, hs => by
    have h2 := hk.1
    have h1 := pc_le hs (by omega)
    let p := lfo (fun x => SS k w (fun _ _ => true) 0 s l x) (fun x => gv k w s0 r (s ||| 2 ^ x) x) 10
    have e : gv k w s0 (r + 1) s l = if p = 10 then (pc s : Int) - pc s0 - 100 else -gv k w s0 r (s ||| 2 ^ p) p := rfl
    rw [e]
    by_cases hn : p = 10
    · rw [if_pos hn]
      omega
    · have hx : SS k w (fun _ _ => true) 0 s l p = true := by
        cases ha : anb (fun x => SS k w (fun _ _ => true) 0 s l x) 10 with
        | false => exact absurd ((lfo_spec _ _ 10 (by decide)).1 ha) hn
        | true => exact ((lfo_spec _ (fun x => gv k w s0 r (s ||| 2 ^ x) x) 10 (by decide)).2 ha).2.1
      have := gv_b hk w s0 h0 r (s ||| 2 ^ p) p (SS_stt hk hs hx).1.1
      rw [if_neg hn]
      omega
theorem SS_10 (k : Kt) (w : Lw) (s0 : Nat) : SS k w (fun _ _ => true) s0 = SS k w (fun _ _ => true) 0 := rfl
theorem c_X3_playBoth (d : Nat) {μ : jM} {k : Kt} {w : Lw} {s0 l0 : Nat} (h : SP μ k w (fun _ _ => true) s0 l0) : ∃ μ', CL (d + 4) 53 [jR 47, jR 29, jR 50] μ = rI (if 0 < gvr k w s0 s0 l0 then 1 else 0) μ' ∧ (∀ q, q ≠ 48 → q ≠ 50 → q ≠ 51 → μ' q = μ q) ∧ RI μ' [if 0 < gvr k w s0 s0 l0 then lno (gp k w s0 s0 l0) else -1, 100 - jabs (gvr k w s0 s0 l0)] := by
  obtain ⟨hk, h10, h0, hN⟩ := SP_k h
  have hS0 := h.2.2.1
  have hl0 := Sok_10 hk hS0
  have hp0 := pc_le h0 (by omega)
  let R := rr k w (fun _ _ => true) s0 l0
  let T : jM → Nat → Nat → Int := fun μ1 s l => μ1 48 ((11 * s + l : Nat) : Int)
  -- sets above a are done; of a the first j last ones
  let J : Nat → Nat → jM → Prop := fun a j μ1 => (∀ q, q ≠ 48 → μ1 q = μ q) ∧ ∀ s l, R s l = true → a < s ∨ s = a ∧ l < j → T μ1 s l = gvr k w s0 s l
  have pics : ∀ μ1, (∀ q, q ≠ 48 → μ1 q = μ q) → SP μ1 k w (fun _ _ => true) s0 l0 := fun μ1 f => SP_cg h (fun q _ _ => f q (by omega))
  -- the one with which it goes on
  have lf : ∀ a μ1, (∀ s l, R s l = true → a < s → T μ1 s l = gvr k w s0 s l) → ∀ l, R a l = true → ∀ d, CL (d + 2) 57 [jR 47, jI a, jI (opn k w (fun _ _ => true) s0 a &&& nra k w l : Nat)] μ1 = rI (lno (gp k w s0 a l)) μ1 := fun a μ1 hT l hr d => by
    have hst := rr_st hk hS0 hr
    have hS := (rr_in hk hS0 hr).1
    have hon := nxt_lt hk w (fun _ _ => true) s0 a l
    have htb := nxt_tb hk (A := fun _ _ => true) (w := w) hS hst.2.2
    rw [c_X3_leastFor d μ1 a _ (by omega) (by omega) (fun x hx => by
      rw [htb x] at hx
      have := (SS_stt hk hst.1 hx).1.1
      omega)]
    congr 2
    refine lfo_cg (by decide) (fun x _ => htb x) (fun x _ hx => ?_)
    rw [htb x] at hx
    have hg := rr_go hk hS0 hr hx
    exact hT _ _ hg.1 (or_gt (SS_i hx).2.2.2)
  have inner : ∀ a, a < 2 ^ kn k → s0 ≤ a → ∀ μ1, J a 0 μ1 → ∃ μ2, EV (d + 3) T_X3_playBoth 2 [some (jR 47), some (jR 29), some (jR 50), some (jI a), some (jI (opn k w (fun _ _ => true) s0 a : Nat)), some (jI 0), none, none] [] μ1 = EV (d + 3) T_X3_playBoth 1 [some (jR 47), some (jR 29), some (jR 50), some (jI ((a : Int) - 1)), none, none, none, none] [] μ2 ∧ J a 11 μ2 := by
    intro a ha hsa μ1 hJ
    have hop := opn_lt hk w (fun _ _ => true) s0 a
    have hrl := re_lt k w (fun _ _ => true) s0 l0 a
    have hpa := pc_le ha (by omega)
    obtain ⟨μ2, e2, j2⟩ := lp_i (fun (j : Nat) (μ1 : jM) => EV (d + 3) T_X3_playBoth 2 [some (jR 47), some (jR 29), some (jR 50), some (jI a), some (jI (opn k w (fun _ _ => true) s0 a : Nat)), some (jI j), none, none] [] μ1) (fun j μ1 => J a j μ1) 11 (fun j μ1 hj hJ => by
      have s1 := pics μ1 hJ.1
      show ∃ s', EV (d + 3) T_X3_playBoth 2 _ [] μ1 = _ ∧ _
      rw [e_X3_playBoth_2, if_pos (by omega), c_ends _ s1 a ha, bI_r, tb_1 _ j (by omega) (by omega), re_tb hj, w_s j (by omega)]
      have stay : R a j = false → J a (j + 1) μ1 := fun hz => ⟨hJ.1, fun s l hr hc => by
        by_cases h1 : s = a ∧ l = j
        · rw [h1.1, h1.2, hz] at hr
          cases hr
        · exact hJ.2 s l hr (by omega)⟩
      cases hr : R a j with
      | false =>
        rw [show rr k w (fun _ _ => true) s0 l0 a j = false from hr]
        exact ⟨μ1, if_neg (by decide), stay hr⟩
      | true =>
        rw [show rr k w (fun _ _ => true) s0 l0 a j = true from hr]
        have hst := rr_st hk hS0 hr
        have hS := (rr_in hk hS0 hr).1
        have hna := nra_lt hk w j
        have go : ∀ v, v = gvr k w s0 a j → J a (j + 1) (jup μ1 48 ((11 * a + j : Nat) : Int) v) := fun v hv => ⟨fun q hq => (jup_ne hq).trans (hJ.1 q hq), fun s l hr2 hc => by
          have hl := (rr_st hk hS0 hr2).2.1
          show jup μ1 48 _ v 48 _ = _
          rw [tab_up (by omega) hl]
          by_cases h1 : s = a ∧ l = j
          · rw [if_pos h1, hv, h1.1, h1.2]
          · rw [if_neg h1]
            exact hJ.2 s l hr2 (by omega)⟩
        have eg := gvr_s hk w s0 (s := a) (l := j) ha
        rw [if_pos rfl, if_pos rfl, c_near _ s1 j (by rcases hS.2 with z | z; exact Or.inl z.1; exact Or.inr z.1), bI_r, and_nn _ _ (by omega) (by omega), lf a μ1 (fun s l hr hc => hJ.2 s l hr (Or.inl hc)) j hr, bI_r]
        by_cases hg : gp k w s0 a j = 10
        · have e1 : lno (gp k w s0 a j) = -1 := if_pos hg
          rw [if_pos hg] at eg
          rw [if_pos e1, c_more _ s1 a ha, bI_r, c_X3_setValue _ μ1 a j (by omega) (by omega), bV_r]
          exact ⟨_, rfl, go _ (by rw [w_id (by omega) (by omega), eg])⟩
        · have e1 : lno (gp k w s0 a j) = ((gp k w s0 a j : Nat) : Int) := if_neg hg
          rw [if_neg hg] at eg
          obtain ⟨g1, g2⟩ := gp_S hg
          have hst2 := (SS_stt hk ha g2).1
          have h2g := p2_le (show gp k w s0 a j ≤ 10 by omega)
          have hlt := hst2.1
          have hgo := rr_go hk hS0 hr g2
          have hT := hJ.2 _ _ hgo.1 (Or.inl (or_gt (SS_i g2).2.2.2))
          have hb := gv_b hk w s0 (by omega) (10 - pc (a ||| 2 ^ gp k w s0 a j)) _ (gp k w s0 a j) hlt
          rw [e1, if_neg (by omega), shl_1 _ (by omega), or_nn a _ (by omega) (by omega), c_X3_value _ μ1 _ _ (by omega) (by omega), bI_r, show μ1 48 ((11 * (a ||| 2 ^ gp k w s0 a j) + gp k w s0 a j : Nat) : Int) = gvr k w s0 (a ||| 2 ^ gp k w s0 a j) (gp k w s0 a j) from hT, c_X3_setValue _ μ1 a j (by omega) (by omega), bV_r]
          refine ⟨_, rfl, go _ ?_⟩
          rw [eg]
          unfold gvr at hb ⊢
          exact w_id (by omega) (by omega)) μ1 hJ
    refine ⟨μ2, e2.trans ?_, j2⟩
    show EV (d + 3) T_X3_playBoth 2 _ [] μ2 = _
    rw [e_X3_playBoth_2, if_neg (by decide), w_id (by omega) (by omega)]
    rfl
  obtain ⟨μ1, e1, i1, i2⟩ := lp_j (fun (i : Nat) (μ1 : jM) => EV (d + 3) T_X3_playBoth 1 [some (jR 47), some (jR 29), some (jR 50), some (jI (((s0 + i : Nat) : Int) - 1)), none, none, none, none] [] μ1) (fun i μ1 => (∀ q, q ≠ 48 → μ1 q = μ q) ∧ ∀ s l, R s l = true → s0 + i ≤ s → T μ1 s l = gvr k w s0 s l) (2 ^ kn k - s0) (fun i μ1 hi hI => by
    have s1 := pics μ1 hI.1
    have ha : s0 + i < 2 ^ kn k := by omega
    obtain ⟨μ2, e2, j2⟩ := inner (s0 + i) ha (by omega) μ1 ⟨hI.1, fun s l hr hc => hI.2 s l hr (by omega)⟩
    refine ⟨μ2, Eq.trans ?_ e2, j2.1, fun s l hr hc => j2.2 s l hr (by have := (rr_st hk hS0 hr).2.1; omega)⟩
    show EV (d + 3) T_X3_playBoth 1 [some (jR 47), some (jR 29), some (jR 50), some (jI (((s0 + (i + 1) : Nat) : Int) - 1)), none, none, none, none] [] μ1 = _
    have e3 : ((s0 + (i + 1) : Nat) : Int) - 1 = ((s0 + i : Nat) : Int) := by omega
    rw [e3, e_X3_playBoth_1, c_from _ s1, bI_r, if_neg (by omega), c_open _ s1 _ ha, bI_r]) μ ⟨fun _ _ => rfl, fun s l hr hc => by have := (rr_st hk hS0 hr).1; omega⟩
  have s1 := pics μ1 i1
  have hr0 : R s0 l0 = true := by
    show rr k w (fun _ _ => true) s0 l0 s0 l0 = true
    rw [rr_0]
    simp
  have hT0 : μ1 48 ((11 * s0 + l0 : Nat) : Int) = gvr k w s0 s0 l0 := i2 s0 l0 hr0 (Nat.le_refl _)
  obtain ⟨μ2, e2, f2, r2⟩ := c_X7_clear (d + 2) (μ := μ1)
  have s2 : SP μ2 k w (fun _ _ => true) s0 l0 := SP_cg s1 (fun q _ _ => f2 q (by omega) (by omega))
  have head : CL (d + 4) 53 [jR 47, jR 29, jR 50] μ = EV (d + 3) T_X3_playBoth 1 [some (jR 47), some (jR 29), some (jR 50), some (jI ((s0 : Int) - 1)), none, none, none, none] [] μ1 := by
    rw [e_X3_playBoth, c_sets _ h, bI_r, w_id (by omega) (by omega)]
    have e3 : ((2 ^ kn k : Nat) : Int) - 1 = ((s0 + (2 ^ kn k - s0) : Nat) : Int) - 1 := by omega
    rw [e3]
    exact e1
  have hb := gv_b hk w s0 (by omega) (10 - pc s0) s0 l0 h0
  have hjb : -1000 ≤ 100 - jabs (gvr k w s0 s0 l0) ∧ 100 - jabs (gvr k w s0 s0 l0) ≤ 1000 := by
    unfold gvr at hb ⊢
    unfold jabs
    by_cases hz : 0 ≤ gv k w s0 (10 - pc s0) s0 l0
    · rw [if_pos hz]
      omega
    · rw [if_neg hz, w_id (by omega) (by omega)]
      omega
  rw [head, e_X3_playBoth_1, c_from _ s1, bI_r, if_pos (by omega), c_from _ s1, bI_r, c_start _ s1, bI_r, c_X3_value _ μ1 s0 l0 (by omega) hl0, bI_r, hT0, e2, bV_r]
  by_cases hpos : 0 < gvr k w s0 s0 l0
  · have hna := nra_lt hk w l0
    have hop := opn_lt hk w (fun _ _ => true) s0 s0
    obtain ⟨μ3, e3, f3, r3⟩ := c_X7_add (d + 2) r2 (lno (gp k w s0 s0 l0)) (by simp)
    obtain ⟨μ4, e4, f4, r4⟩ := c_X7_add (d + 2) r3 (100 - jabs (gvr k w s0 s0 l0)) (by simp)
    refine ⟨μ4, ?_, fun q h1 h2 h3 => (f4 q h2 h3).trans ((f3 q h2 h3).trans ((f2 q h2 h3).trans (i1 q h1))), ?_⟩
    · have hlf := fun d => lf s0 μ2 (fun s l hr hc => by
        show μ2 48 _ = _
        rw [f2 48 (by decide) (by decide)]
        exact i2 s l hr (by omega)) l0 hr0 d
      rw [if_pos hpos, c_open _ s2 _ h0, bI_r, c_start _ s2, bI_r, c_near _ s2 l0 (by rcases hS0.2 with z | z; exact Or.inl z.1; exact Or.inr z.1), bI_r, and_nn _ _ (by omega) (by omega), hlf, bI_r, e3, bV_r, w_id (by omega) (by omega), e4, bV_r, if_pos hpos, if_pos hpos]
    · rw [if_pos hpos]
      exact r4
  · obtain ⟨μ3, e3, f3, r3⟩ := c_X7_add (d + 2) r2 (-1) (by simp)
    obtain ⟨μ4, e4, f4, r4⟩ := c_X7_add (d + 2) r3 (100 - jabs (gvr k w s0 s0 l0)) (by simp)
    refine ⟨μ4, ?_, fun q h1 h2 h3 => (f4 q h2 h3).trans ((f3 q h2 h3).trans ((f2 q h2 h3).trans (i1 q h1))), ?_⟩
    · rw [if_neg hpos, e3, bV_r, w_id (by omega) (by omega), e4, bV_r, if_neg hpos, if_neg hpos]
    · rw [if_neg hpos]
      exact r4
