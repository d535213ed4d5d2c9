theorem jpre_cg {μ : jM} {p : Nat} {g g' : Nat → Int} {n : Nat} (h : ∀ s, s < n → g s = g' s) : jpre μ p g n = jpre μ p g' n := by
  funext q j
  by_cases hq : q = p
  · subst hq
    unfold jpre
    rw [jfill_eq, jfill_eq]
    show (if 0 ≤ j ∧ j < (n : Int) then _ else _) = if 0 ≤ j ∧ j < (n : Int) then _ else _
    by_cases hj : 0 ≤ j ∧ j < (n : Int)
    · rw [if_pos hj, if_pos hj, h _ (by omega)]
    · rw [if_neg hj, if_neg hj]
  · rw [jpre_ne hq, jpre_ne hq]
theorem jpre_up {μ : jM} {p : Nat} {g : Nat → Int} {n i : Nat} {v : Int} (hi : i < n) : jup (jpre μ p g n) p i v = jpre μ p (fun s => if s = i then v else g s) n := by
  funext q j
  by_cases hq : q = p
  · subst hq
    rw [jup_eq]
    unfold jpre
    rw [jfill_eq, jfill_eq]
    show (if j = (i : Int) then v else if 0 ≤ j ∧ j < (n : Int) then g j.toNat else _) = if 0 ≤ j ∧ j < (n : Int) then (if j.toNat = i then v else g j.toNat) else _
    by_cases hj : j = (i : Int)
    · rw [if_pos hj, if_pos (by omega), if_pos (by omega)]
    · rw [if_neg hj]
      by_cases h2 : 0 ≤ j ∧ j < (n : Int)
      · rw [if_pos h2, if_pos h2, if_neg (by omega)]
      · rw [if_neg h2, if_neg h2]
  · rw [jup_ne hq, jpre_ne hq, jpre_ne hq]
/-! ## what may come at a place, as an int's bits -/
def alw (v : Int) (P : Nat → Bool) : Prop := (∃ b : Nat, b < 2048 ∧ v = (b : Int) ∧ ∀ x, x < 10 → b.testBit x = P x) ∨ (∃ b : Nat, b < 2048 ∧ v = cp b ∧ ∀ x, x < 10 → (!b.testBit x) = P x)
theorem alw_tb {v : Int} {P : Nat → Bool} (h : alw v P) {x : Nat} (hx : x < 10) : jand (jshr v (x : Int)) 1 = if P x then 1 else 0 := by
  rcases h with ⟨b, h1, rfl, h3⟩ | ⟨b, h1, rfl, h3⟩
  · rw [tb_1 _ x (by omega) (by omega), h3 x hx]
  · rw [tb_c _ x (by omega) (by omega), ← h3 x hx]
    cases b.testBit x <;> rfl
theorem alw_nc {v : Int} {P : Nat → Bool} (h : alw v P) {s : Nat} (hs : s < 1024) : alw (jand v (cp s)) (fun x => P x && !s.testBit x) := by
  rcases h with ⟨b, h1, rfl, h3⟩ | ⟨b, h1, rfl, h3⟩
  · refine Or.inl ⟨nd b s, Nat.lt_of_le_of_lt (nd_le _ _) h1, and_nc _ _ (by omega) (by omega), fun x hx => ?_⟩
    rw [nd_tb, h3 x hx]
  · refine Or.inr ⟨b ||| s, Nat.or_lt_two_pow (n := 11) h1 (by omega), and_cc _ _ (by omega) (by omega), fun x hx => ?_⟩
    dsimp only
    rw [Nat.testBit_or, ← h3 x hx]
    cases b.testBit x <;> cases s.testBit x <;> rfl
theorem alw_and {v : Int} {P : Nat → Bool} (h : alw v P) {c : Nat} (hc : c < 1024) : alw (jand v (c : Int)) (fun x => P x && c.testBit x) := by
  rcases h with ⟨b, h1, rfl, h3⟩ | ⟨b, h1, rfl, h3⟩
  · refine Or.inl ⟨b &&& c, Nat.lt_of_le_of_lt Nat.and_le_left h1, and_nn _ _ (by omega) (by omega), fun x hx => ?_⟩
    rw [Nat.testBit_and, h3 x hx]
  · refine Or.inl ⟨nd c b, Nat.lt_of_le_of_lt (nd_le _ _) (by omega), and_cn _ _ (by omega) (by omega), fun x hx => ?_⟩
    dsimp only
    rw [nd_tb, ← h3 x hx, Bool.and_comm]
/-! ## ways from a start: k kitchen, w law, A what is allowed at a place -/
abbrev Ap : Type := Nat → Nat → Bool
def stp (k : Kt) (w : Lw) (A : Ap) (i s l x : Nat) : Bool := decide (x < kn k) && (A i x && may k w s l x)
/-- a start: a set, its last one -/
def Sok (k : Kt) (s l : Nat) : Prop := s < 2 ^ kn k ∧ (l = 10 ∧ s = 0 ∨ l < kn k ∧ s.testBit l = true)
theorem Sok_l {k : Kt} {s l : Nat} (h : Sok k s l) : l = 10 ∨ l < kn k ∧ s.testBit l = true := by
  rcases h.2 with z | z
  · exact Or.inl z.1
  · exact Or.inr z
def rc (k : Kt) (w : Lw) (A : Ap) (s0 l0 : Nat) : Nat → Nat → Nat → Bool
  | 0, s, l => s == s0 && l == l0
  | m + 1, s, l => (decide (l < kn k) && s.testBit l) && anb (fun l' => rc k w A s0 l0 m (nd s (2 ^ l)) l' && stp k w A m (nd s (2 ^ l)) l' l) 11
theorem may_nb {k : Kt} {w : Lw} {s l x : Nat} (h : may k w s l x = true) : s.testBit x = false := by
  unfold may rfs at h
  cases hb : s.testBit x with
  | false => rfl
  | true =>
    rw [hb] at h
    simp at h
theorem pc_or1 {n s x : Nat} (hn : n ≤ 12) (hs : s < 2 ^ n) (hx : x < n) (hb : s.testBit x = false) : pc (s ||| 2 ^ x) = pc s + 1 := by
  have h2 : s ||| 2 ^ x < 2 ^ n := Nat.or_lt_two_pow hs (Nat.pow_lt_pow_right (by decide) hx)
  rw [pc_cnt h2 hn, pc_cnt hs hn]
  have e : cnt (fun i => (s ||| 2 ^ x).testBit i) n = cnt (fun i => s.testBit i || i == x) n := cnt_cg (fun i _ => by
    rw [Nat.testBit_or, Nat.testBit_two_pow]
    by_cases h : x = i
    · subst h
      simp
    · have : (i == x) = false := by simpa using Ne.symm h
      rw [this]
      simp [h])
  rw [e, cnt_or1 (P := fun i => s.testBit i) hb, if_pos hx]
theorem nd_or {s x : Nat} (h : s.testBit x = true) : nd s (2 ^ x) ||| 2 ^ x = s := by
  apply Nat.eq_of_testBit_eq
  intro i
  rw [Nat.testBit_or, nd_tb, Nat.testBit_two_pow]
  by_cases hi : x = i
  · subst hi
    simp [h]
  · simp [hi]
theorem or_nd {s x : Nat} (h : s.testBit x = false) : nd (s ||| 2 ^ x) (2 ^ x) = s := by
  apply Nat.eq_of_testBit_eq
  intro i
  rw [nd_tb, Nat.testBit_or, Nat.testBit_two_pow]
  by_cases hi : x = i
  · subst hi
    simp [h]
  · simp [hi]
theorem nd_lt {s x : Nat} (h : s.testBit x = true) : nd s (2 ^ x) < s := by
  have h1 := nd_le s (2 ^ x)
  have h2 : nd s (2 ^ x) ≠ s := fun z => by
    have h3 := nd_tb s (2 ^ x) x
    rw [z, h, Nat.testBit_two_pow] at h3
    simp at h3
  omega
theorem or_gt {s x : Nat} (h : s.testBit x = false) : s < s ||| 2 ^ x := by
  have h1 := nd_lt (s := s ||| 2 ^ x) (x := x) (by simp [Nat.testBit_or, Nat.testBit_two_pow])
  rwa [or_nd h] at h1
/-- what is reached is a state, m further on -/
theorem rc_ok {k : Kt} (hk : Kok k) {w : Lw} {A : Ap} {s0 l0 : Nat} (h0 : Sok k s0 l0) : ∀ (m s l : Nat), rc k w A s0 l0 m s l = true → Sok k s l ∧ pc s = pc s0 + m
  | 0, s, l, h => by
    simp only [rc, Bool.and_eq_true, beq_iff_eq] at h
    obtain ⟨rfl, rfl⟩ := h
    exact ⟨h0, rfl⟩
  | m + 1, s, l, h => by
    simp only [rc, Bool.and_eq_true, decide_eq_true_eq] at h
    obtain ⟨⟨h1, h2⟩, h3⟩ := h
    obtain ⟨l', h4, h5⟩ := anb_iff.mp h3
    rw [Bool.and_eq_true] at h5
    obtain ⟨⟨g1, -⟩, g2⟩ := rc_ok hk h0 m _ _ h5.1
    have hb : (nd s (2 ^ l)).testBit l = false := by
      rw [nd_tb, Nat.testBit_two_pow]
      simp
    have e := pc_or1 (by have := hk.1; omega) g1 h1 hb
    rw [nd_or h2] at e
    refine ⟨⟨?_, Or.inr ⟨h1, h2⟩⟩, by omega⟩
    rw [← nd_or h2]
    exact Nat.or_lt_two_pow g1 (Nat.pow_lt_pow_right (by decide) h1)
/-- reached at all -/
def rr (k : Kt) (w : Lw) (A : Ap) (s0 l0 s l : Nat) : Bool := rc k w A s0 l0 (pc s - pc s0) s l
theorem rr_0 (k : Kt) (w : Lw) (A : Ap) (s0 l0 l : Nat) : rr k w A s0 l0 s0 l = (l == l0) := by
  unfold rr
  rw [Nat.sub_self]
  show (s0 == s0 && l == l0) = _
  simp
theorem rr_s {k : Kt} (hk : Kok k) {w : Lw} {A : Ap} {s0 l0 : Nat} (h0 : Sok k s0 l0) {s x : Nat} (hs : s < 2 ^ kn k) (hx : x < kn k) (hb : s.testBit x = false) (hne : s ||| 2 ^ x ≠ s0) : rr k w A s0 l0 (s ||| 2 ^ x) x = anb (fun l' => rr k w A s0 l0 s l' && stp k w A (pc s - pc s0) s l' x) 11 := by
  have e := pc_or1 (by have := hk.1; omega) hs hx hb
  have hb2 : (s ||| 2 ^ x).testBit x = true := by simp [Nat.testBit_or, Nat.testBit_two_pow]
  unfold rr
  cases h : anb (fun l' => rc k w A s0 l0 (pc s - pc s0) s l' && stp k w A (pc s - pc s0) s l' x) 11 with
  | true =>
    obtain ⟨l', h4, h5⟩ := anb_iff.mp h
    rw [Bool.and_eq_true] at h5
    obtain ⟨-, g2⟩ := rc_ok hk h0 _ _ _ h5.1
    have e2 : pc (s ||| 2 ^ x) - pc s0 = (pc s - pc s0) + 1 := by omega
    rw [e2]
    simp only [rc, hx, hb2, or_nd hb, decide_true, Bool.true_and]
    exact h
  | false =>
    cases h2 : rc k w A s0 l0 (pc (s ||| 2 ^ x) - pc s0) (s ||| 2 ^ x) x with
    | false => rfl
    | true =>
      obtain ⟨-, g2⟩ := rc_ok hk h0 _ _ _ h2
      generalize hm : pc (s ||| 2 ^ x) - pc s0 = m at h2 g2
      cases m with
      | zero =>
        simp only [rc, Bool.and_eq_true, beq_iff_eq] at h2
        exact absurd h2.1 hne
      | succ m =>
        simp only [rc, hx, hb2, or_nd hb, decide_true, Bool.true_and] at h2
        have e3 : pc s - pc s0 = m := by omega
        rw [e3] at h
        rw [h] at h2
        cases h2
/-- what is reached otherwise than at the start ends with one of it -/
theorem rr_in {k : Kt} (hk : Kok k) {w : Lw} {A : Ap} {s0 l0 : Nat} (h0 : Sok k s0 l0) {s l : Nat} (h : rr k w A s0 l0 s l = true) : Sok k s l ∧ pc s0 ≤ pc s := by
  obtain ⟨h1, h2⟩ := rc_ok hk h0 _ _ _ h
  exact ⟨h1, by omega⟩
def re (k : Kt) (w : Lw) (A : Ap) (s0 l0 s : Nat) : Nat := bm (fun l => rr k w A s0 l0 s l) 11
theorem re_lt (k : Kt) (w : Lw) (A : Ap) (s0 l0 s : Nat) : re k w A s0 l0 s < 2048 := bm_lt _ 11
theorem re_tb {k : Kt} {w : Lw} {A : Ap} {s0 l0 s l : Nat} (hl : l < 11) : (re k w A s0 l0 s).testBit l = rr k w A s0 l0 s l := by
  unfold re
  rw [bm_tb]
  simp [hl]
/-- which can come behind a set, whichever is its last -/
def opn (k : Kt) (w : Lw) (A : Ap) (s0 s : Nat) : Nat := if pc s < pc s0 ∨ 10 ≤ pc s - pc s0 then 0 else bm (fun x => (A (pc s - pc s0) x && !s.testBit x && hcd k w s x) && stk k w (s ||| 2 ^ x)) (kn k)
theorem opn_lt {k : Kt} (hk : Kok k) (w : Lw) (A : Ap) (s0 s : Nat) : opn k w A s0 s < 1024 := by
  unfold opn
  split
  · decide
  · exact bm_lt' _ hk.1
theorem opn_stp {k : Kt} (hk : Kok k) {w : Lw} {A : Ap} {s0 s l x : Nat} (hs : s < 2 ^ kn k) (hl : l = 10 ∨ l < kn k ∧ s.testBit l = true) (hp : pc s0 ≤ pc s) (hx : x < kn k) : ((opn k w A s0 s).testBit x && (nr k w x).testBit l) = stp k w A (pc s - pc s0) s l x := by
  have h10 := hk.1
  unfold stp opn
  rw [may_eq hk w hs hl hx]
  have hpx : decide (x < kn k) = true := by simpa using hx
  by_cases h : 10 ≤ pc s - pc s0
  · rw [if_pos (Or.inr h), Nat.zero_testBit, hpx]
    have h9 : pc s ≤ kn k := by
      rw [pc_cnt hs (by omega)]
      exact cnt_le _ _
    have h8 : pc s = kn k := by omega
    -- all DISHES are in the set
    have hall : s.testBit x = true := by
      cases hb : s.testBit x with
      | true => rfl
      | false =>
        have e := pc_or1 (by omega) hs hx hb
        have h7 : s ||| 2 ^ x < 2 ^ kn k := Nat.or_lt_two_pow hs (Nat.pow_lt_pow_right (by decide) hx)
        have h6 : pc (s ||| 2 ^ x) ≤ kn k := by
          rw [pc_cnt h7 (by omega)]
          exact cnt_le _ _
        omega
    rw [hall]
    simp
  · rw [if_neg (by omega), bm_tb, hpx]
    cases A (pc s - pc s0) x <;> cases s.testBit x <;> cases hcd k w s x <;> cases stk k w (s ||| 2 ^ x) <;> cases (nr k w x).testBit l <;> rfl
/-- from where it goes on, and what may come at which place -/
def TB (μ : jM) (s0 l0 : Nat) (A : Ap) : Prop := μ 29 9 = (s0 : Int) ∧ μ 29 10 = (l0 : Int) ∧ ∀ i : Nat, i < 10 → alw (μ 33 i) (A i)
theorem TB_cg {μ μ' : jM} {s0 l0 : Nat} {A : Ap} (h : TB μ s0 l0 A) (e1 : μ' 29 9 = μ 29 9) (e2 : μ' 29 10 = μ 29 10) (e3 : μ' 33 = μ 33) : TB μ' s0 l0 A := ⟨by rw [e1]; exact h.1, by rw [e2]; exact h.2.1, fun i hi => by rw [e3]; exact h.2.2 i hi⟩
theorem c_X8_begin (d : Nat) (μ : jM) (s0 l0 : Nat) (v : Int) (P : Nat → Bool) (hl : l0 ≤ 10) (hv : alw v P) : ∃ μ', CL (d + 2) 108 [jR 29, jI s0, jI (lno l0), jI v] μ = rV μ' ∧ (∀ q, q ≠ 29 → q ≠ 33 → μ' q = μ q) ∧ (∀ j, j ≠ 9 → j ≠ 10 → μ' 29 j = μ 29 j) ∧ TB μ' s0 l0 (fun _ => P) := by
  have key : ∀ L : Int, L = (l0 : Int) → ∃ μ', bV (CL (d + 1) 1 [jR 33, jI v] (jup (jup μ 29 9 s0) 29 10 L)) (fun μ2 => rV μ2) = rV μ' ∧ (∀ q, q ≠ 29 → q ≠ 33 → μ' q = μ q) ∧ (∀ j, j ≠ 9 → j ≠ 10 → μ' 29 j = μ 29 j) ∧ TB μ' s0 l0 (fun _ => P) := by
    intro L hL
    subst hL
    rw [c_fill _ _ 33 10 v (by decide) (by decide), bV_r]
    refine ⟨_, rfl, fun q h1 h2 => by rw [jpre_ne h2, jup_ne h1, jup_ne h1], fun j h1 h2 => by rw [jpre_ne (by decide), jup_m h2, jup_m h1], ?_, ?_, fun i hi => ?_⟩
    · rw [jpre_ne (by decide)]; simp (disch := omega) only [jup_r, jup_m, jup_n]
    · rw [jpre_ne (by decide)]; simp (disch := omega) only [jup_r, jup_m, jup_n]
    · rw [jpre_lo hi]
      exact hv
  rw [e_X8_begin]
  by_cases h : l0 = 10
  · have e : lno l0 = -1 := if_pos h
    rw [if_pos e]
    exact key 10 (by omega)
  · have e : lno l0 = (l0 : Int) := if_neg h
    rw [if_neg (by omega)]
    exact key _ e
theorem c_X8_allow (d : Nat) {μ : jM} {s0 l0 : Nat} {A : Ap} (h : TB μ s0 l0 A) (i : Nat) (hi : i < 10) (v : Int) (P : Nat → Bool) (hv : alw v P) : CL (d + 1) 109 [jR 29, jI i, jI v] μ = rV (jup μ 33 i v) ∧ TB (jup μ 33 i v) s0 l0 (fun j => if j = i then P else A j) := by
  refine ⟨by rw [e_X8_allow, if_neg (by omega), if_pos (by omega), gd_t (by omega)], by rw [jup_n (by decide)]; exact h.1, by rw [jup_n (by decide)]; exact h.2.1, fun j hj => ?_⟩
  by_cases e : j = i
  · subst e
    dsimp only
    rw [jup_r, if_pos rfl]
    exact hv
  · dsimp only
    rw [jup_m (by omega), if_neg e]
    exact h.2.2 j hj
theorem c_X8_near (d : Nat) {μ : jM} {k : Kt} {w : Lw} (h : TL μ k w) (x : Nat) (hx : x < kn k ∨ x = 10) : CL (d + 1) 116 [jR 29, jI x] μ = rI ((if x = 10 then 2047 else nr k w x : Nat) : Int) μ := by
  have h10 := h.1.1
  rw [e_X8_near, if_neg (by omega), if_pos (by omega), gd_t (by omega)]
  rcases hx with hx | rfl
  · rw [h.2.2.2.2.2.1 x hx, if_neg (by omega)]
  · rw [if_pos rfl]
    congr 1
    exact h.2.2.2.2.2.2.1
theorem c_X8_fits (d : Nat) {μ : jM} {k : Kt} {w : Lw} (h : TL μ k w) (s : Nat) (hs : s < 2 ^ kn k) : CL (d + 1) 117 [jR 29, jI s] μ = rI (if stk k w s then 1 else 0) μ := by
  have h10 := p2_le h.1.1
  rw [e_X8_fits, if_neg (by omega), if_pos (by omega), gd_t (by omega), h.2.2.2.2.2.2.2.2 s hs]
  cases stk k w s <;> rfl
theorem c_X8_more (d : Nat) {μ : jM} {s0 l0 : Nat} {A : Ap} (h : TB μ s0 l0 A) (s : Nat) (hs : s < 1024) (hs0 : s0 < 1024) : CL (d + 2) 119 [jR 29, jI s] μ = rI ((pc s : Int) - (pc s0 : Int)) μ := by
  have b : ∀ z, pc z ≤ 12 := fun z => by
    unfold pc
    rw [pcb_cnt]
    exact cnt_le _ _
  have b1 := b s
  have b2 := b s0
  rw [e_X8_more, c_bc _ _ _ (by omega), bI_r, h.1, c_bc _ _ _ (by omega), bI_r, w_id (by omega) (by omega)]
theorem and_1023 {s : Nat} (h : s < 1024) : s &&& 1023 = s := by
  have := Nat.and_two_pow_sub_one_eq_mod s 10
  rw [show 2 ^ 10 - 1 = 1023 from rfl] at this
  rw [this]
  exact Nat.mod_eq_of_lt h
theorem c_X8_open (d : Nat) {μ : jM} {k : Kt} {w : Lw} {s0 l0 : Nat} {A : Ap} (h : TL μ k w) (hb : TB μ s0 l0 A) (hs0 : s0 < 2 ^ kn k) (s : Nat) (hs : s < 2 ^ kn k) : CL (d + 3) 120 [jR 29, jI s] μ = rI (opn k w A s0 s : Int) μ := by
  have h10 := h.1.1
  have h2n := p2_le h10
  have hkh : khot k < 2 ^ 10 := bm_lt' _ h10
  have loop : ∀ (v : Int) (P : Nat → Bool), alw v P → EV (d + 2) T_X8_open 1 [some (jR 29), some (jI s), none, some (jI v), some (jI 0), some (jI 0)] [] μ = rI (bm (fun x => P x && stk k w (s ||| 2 ^ x)) (kn k) : Nat) μ := by
    intro v P hv
    refine (lp_0 (fun i : Nat => EV (d + 2) T_X8_open 1 [some (jR 29), some (jI s), none, some (jI v), some (jI (bm (fun x => P x && stk k w (s ||| 2 ^ x)) i : Nat)), some (jI i)] [] μ) (kn k) (fun i hi => ?_)).trans ?_
    · have h2i := p2_le (show i ≤ 10 by omega)
      have hor : s ||| 2 ^ i < 2 ^ kn k := Nat.or_lt_two_pow hs (Nat.pow_lt_pow_right (by decide) hi)
      have e1 := and_nn s 1023 (by omega) (by decide)
      rw [show ((1023 : Nat) : Int) = 1023 from rfl, and_1023 (by omega)] at e1
      rw [e_X8_open_1, h.2.2.1, if_pos (by omega), alw_tb hv (by omega), e1, shl_1 _ (by omega), or_nn s _ (by omega) (by omega), gd_t (by omega), h.2.2.2.2.2.2.2.2 _ hor, w_s _ (by omega), ← bm_or _ _ (by omega)]
      have ez : jor (bm (fun x => P x && stk k w (s ||| 2 ^ x)) i : Nat) 0 = ((bm (fun x => P x && stk k w (s ||| 2 ^ x)) i : Nat) : Int) := by
        have hbm := bm_lt' (fun x => P x && stk k w (s ||| 2 ^ x)) (show i ≤ 10 by omega)
        have := or_nn (bm (fun x => P x && stk k w (s ||| 2 ^ x)) i) 0 (by omega) (by decide)
        rw [Nat.or_zero] at this
        exact this
      cases P i with
      | false =>
        refine (if_neg (by decide)).trans ?_
        simp only [Bool.false_and, Bool.false_eq_true, if_false]
        rw [ez]
      | true =>
        refine (if_pos rfl).trans ?_
        cases stk k w (s ||| 2 ^ i) with
        | false =>
          refine (if_pos rfl).trans ?_
          simp only [Bool.and_false, Bool.false_eq_true, if_false]
          rw [ez]
        | true => exact (if_neg (by decide))
    · rw [e_X8_open_1, h.2.2.1, if_neg (by omega)]
  rw [e_X8_open, c_X8_more _ hb s (by omega) (by omega), bI_r]
  unfold opn
  by_cases h1 : pc s < pc s0
  · rw [if_pos (by omega), if_pos (Or.inl h1)]
    rfl
  · rw [if_neg (by omega)]
    by_cases h2 : 10 ≤ pc s - pc s0
    · rw [if_neg (by omega), if_pos (Or.inr h2)]
      rfl
    · have ei : (pc s : Int) - (pc s0 : Int) = ((pc s - pc s0 : Nat) : Int) := by omega
      rw [if_pos (by omega), ei, gd_t (by omega), if_neg (show ¬ (pc s < pc s0 ∨ 10 ≤ pc s - pc s0) by omega), h.2.2.2.2.1, h.2.2.2.1, xor_m1 _ (by omega)]
      have a1 := alw_nc (hb.2.2 (pc s - pc s0) (by omega)) (show s < 1024 by omega)
      have a2 := alw_and a1 (show khot k < 1024 by omega)
      rw [and_nn s _ (by omega) (by omega)]
      have fin : ∀ {P Q : Nat → Bool}, (∀ x, P x = Q x) → rI (bm (fun x => P x && stk k w (s ||| 2 ^ x)) (kn k) : Nat) μ = rI (bm (fun x => Q x && stk k w (s ||| 2 ^ x)) (kn k) : Nat) μ := fun hpq => by rw [bm_cg (fun i _ => by rw [hpq])]
      by_cases he : lhe w = 1
      · rw [if_pos he]
        refine (if_neg (by decide)).trans ?_
        by_cases hz : s &&& khot k = 0
        · rw [if_pos (by omega), loop _ _ a1]
          refine fin (fun x => ?_)
          unfold hcd
          rw [hz]
          simp
        · rw [if_neg (by omega), loop _ _ a2]
          refine fin (fun x => ?_)
          unfold hcd
          have : ((s &&& khot k) != 0) = true := by simpa using hz
          rw [this, he]
          simp
      · rw [if_neg he]
        refine (if_pos rfl).trans ?_
        rw [loop _ _ a1]
        refine fin (fun x => ?_)
        unfold hcd
        have : (lhe w == 1) = false := by simpa using he
        rw [this]
        simp
