/-! ## rows to a goal -/
/-- can one come to a goal with just r more -/
def cr (S : Nat → Nat → Nat → Bool) (G : Nat → Nat → Bool) : Nat → Nat → Nat → Bool
  | 0, s, l => G s l
  | r + 1, s, l => anb (fun x => S s l x && cr S G r (s ||| 2 ^ x) x) 10
/-- the least of the ways to it -/
def pth (S : Nat → Nat → Nat → Bool) (G : Nat → Nat → Bool) : Nat → Nat → Nat → List Nat
  | 0, _, _ => []
  | r + 1, s, l => fs (fun x => S s l x && cr S G r (s ||| 2 ^ x) x) 10 :: pth S G r (s ||| 2 ^ fs (fun x => S s l x && cr S G r (s ||| 2 ^ x) x) 10) (fs (fun x => S s l x && cr S G r (s ||| 2 ^ x) x) 10)
theorem cr_s (S : Nat → Nat → Nat → Bool) (G : Nat → Nat → Bool) (r s l : Nat) : cr S G (r + 1) s l = anb (fun x => S s l x && cr S G r (s ||| 2 ^ x) x) 10 := rfl
theorem pth_len (S : Nat → Nat → Nat → Bool) (G : Nat → Nat → Bool) : ∀ r s l, (pth S G r s l).length = r
  | 0, _, _ => rfl
  | r + 1, s, l => congrArg (· + 1) (pth_len S G r _ _)
def SS (k : Kt) (w : Lw) (A : Ap) (s0 : Nat) : Nat → Nat → Nat → Bool := fun s l x => stp k w A (pc s - pc s0) s l x
theorem SS_i {k : Kt} {w : Lw} {A : Ap} {s0 s l x : Nat} (h : SS k w A s0 s l x = true) : x < kn k ∧ A (pc s - pc s0) x = true ∧ may k w s l x = true ∧ s.testBit x = false := by
  unfold SS stp at h
  rw [Bool.and_eq_true, Bool.and_eq_true, decide_eq_true_eq] at h
  exact ⟨h.1, h.2.1, h.2.2, may_nb h.2.2⟩
theorem or_lt {k : Kt} {s x : Nat} (hs : s < 2 ^ kn k) (hx : x < kn k) : s ||| 2 ^ x < 2 ^ kn k := Nat.or_lt_two_pow hs (Nat.pow_lt_pow_right (by decide) hx)
theorem rr_pc {k : Kt} (hk : Kok k) {w : Lw} {A : Ap} {s0 l0 : Nat} (h0 : Sok k s0 l0) {s l : Nat} (h : rr k w A s0 l0 s l = true) : pc s0 ≤ pc s := (rr_in hk h0 h).2
/-- a row that can be, and one more -/
theorem rr_go {k : Kt} (hk : Kok k) {w : Lw} {A : Ap} {s0 l0 : Nat} (h0 : Sok k s0 l0) {s l x : Nat} (h : rr k w A s0 l0 s l = true) (hS : SS k w A s0 s l x = true) : rr k w A s0 l0 (s ||| 2 ^ x) x = true ∧ pc (s ||| 2 ^ x) = pc s + 1 := by
  obtain ⟨hx, -, -, hb⟩ := SS_i hS
  have hi := rr_in hk h0 h
  have hp : pc (s ||| 2 ^ x) = pc s + 1 := pc_or1 (Nat.le_trans hk.1 (by decide)) hi.1.1 hx hb
  refine ⟨?_, hp⟩
  rw [rr_s hk h0 hi.1.1 hx hb (fun z => by rw [z] at hp; omega)]
  have hl : l < 11 := by
    have := hk.1
    rcases hi.1.2 with z | z <;> omega
  refine anb_iff.mpr ⟨l, hl, ?_⟩
  rw [h, Bool.true_and]
  exact hS
/-- a goal that can be come to is one that leads from the start to it -/
theorem cr_rc {k : Kt} (hk : Kok k) {w : Lw} {A : Ap} {s0 l0 : Nat} (h0 : Sok k s0 l0) {G : Nat → Nat → Bool} : ∀ (r : Nat) {s l : Nat}, rr k w A s0 l0 s l = true → cr (SS k w A s0) G r s l = true → ∃ t m, rr k w A s0 l0 t m = true ∧ G t m = true ∧ pc t = pc s + r
  | 0, s, l, h, hc => ⟨s, l, h, hc, rfl⟩
  | r + 1, s, l, h, hc => by
    rw [cr_s] at hc
    obtain ⟨x, hx, hc⟩ := anb_iff.mp hc
    rw [Bool.and_eq_true] at hc
    have hg := rr_go hk h0 h hc.1
    obtain ⟨t, m, h1, h2, h3⟩ := cr_rc hk h0 r hg.1 hc.2
    exact ⟨t, m, h1, h2, by omega⟩
theorem rc_cr {k : Kt} (hk : Kok k) {w : Lw} {A : Ap} {s0 l0 : Nat} (h0 : Sok k s0 l0) {G : Nat → Nat → Bool} : ∀ (i : Nat) {r s l : Nat}, rc k w A s0 l0 i s l = true → cr (SS k w A s0) G r s l = true → cr (SS k w A s0) G (i + r) s0 l0 = true
  | 0, r, s, l, h, hc => by
    simp only [rc, Bool.and_eq_true, beq_iff_eq] at h
    rw [h.1, h.2] at hc
    rw [Nat.zero_add]
    exact hc
  | i + 1, r, s, l, h, hc => by
    have hh := rc_ok hk h0 _ _ _ h
    simp only [rc, Bool.and_eq_true, decide_eq_true_eq] at h
    obtain ⟨l', hl', h2⟩ := anb_iff.mp h.2
    rw [Bool.and_eq_true] at h2
    have hp := (rc_ok hk h0 _ _ _ h2.1).2
    have hn : nd s (2 ^ l) ||| 2 ^ l = s := nd_or h.1.2
    have := rc_cr hk h0 (G := G) i (r := r + 1) h2.1 (by
      rw [cr_s]
      refine anb_iff.mpr ⟨l, by have := hk.1; omega, ?_⟩
      rw [hn, hc, Bool.and_true]
      unfold SS
      rw [hp, show pc s0 + i - pc s0 = i by omega]
      exact h2.2)
    rw [show i + 1 + r = i + (r + 1) by omega]
    exact this
/-- what of the rows that can be leads to a goal, all goals being m on -/
def mr (k : Kt) (w : Lw) (A : Ap) (s0 l0 : Nat) (G : Nat → Nat → Bool) (m s l : Nat) : Bool := rr k w A s0 l0 s l && (decide (pc s ≤ pc s0 + m) && cr (SS k w A s0) G (pc s0 + m - pc s) s l)
def mk (k : Kt) (w : Lw) (A : Ap) (s0 l0 : Nat) (G : Nat → Nat → Bool) (m s : Nat) : Nat := bm (fun l => mr k w A s0 l0 G m s l) 11
def hit (k : Kt) (w : Lw) (A : Ap) (s0 l0 : Nat) (G : Nat → Nat → Bool) (m a l x : Nat) : Bool := ((opn k w A s0 a).testBit x && mr k w A s0 l0 G m (a ||| 2 ^ x) x) && (rr k w A s0 l0 a l && (nr k w x).testBit l)
theorem mr_hit {k : Kt} (hk : Kok k) {w : Lw} {A : Ap} {s0 l0 : Nat} (h0 : Sok k s0 l0) {G : Nat → Nat → Bool} {m : Nat} (hG : ∀ s l, G s l = true → rr k w A s0 l0 s l = true ∧ pc s = pc s0 + m) {a l : Nat} (ha : a < 2 ^ kn k) : (G a l || anb (fun x => hit k w A s0 l0 G m a l x) (kn k)) = mr k w A s0 l0 G m a l := by
  have hn := hk.1
  cases hr : rr k w A s0 l0 a l with
  | false =>
    have h1 : G a l = false := by
      cases hg : G a l with
      | false => rfl
      | true => rw [(hG a l hg).1] at hr; cases hr
    have h2 : anb (fun x => hit k w A s0 l0 G m a l x) (kn k) = false := by
      cases hz : anb (fun x => hit k w A s0 l0 G m a l x) (kn k) with
      | false => rfl
      | true =>
        obtain ⟨x, hx, hq⟩ := anb_iff.mp hz
        simp [hit, hr] at hq
    rw [h1, h2]
    simp [mr, hr]
  | true =>
    have hi := rr_in hk h0 hr
    -- one hit is one step on
    have hst : ∀ x, x < kn k → hit k w A s0 l0 G m a l x = (SS k w A s0 a l x && (decide (pc a + 1 ≤ pc s0 + m) && cr (SS k w A s0) G (pc s0 + m - (pc a + 1)) (a ||| 2 ^ x) x)) := by
      intro x hx
      have e := opn_stp (A := A) (w := w) hk hi.1.1 (Sok_l hi.1) hi.2 hx
      have e2 : SS k w A s0 a l x = ((opn k w A s0 a).testBit x && (nr k w x).testBit l) := e.symm
      cases hs : SS k w A s0 a l x with
      | false =>
        rw [hs] at e2
        unfold hit
        rw [hr, Bool.true_and]
        cases h1 : (opn k w A s0 a).testBit x with
        | false => simp
        | true =>
          rw [h1, Bool.true_and] at e2
          rw [← e2]
          simp
      | true =>
        rw [hs] at e2
        have e3 := Bool.and_eq_true_iff.mp e2.symm
        have hg := rr_go hk h0 hr hs
        unfold hit mr
        rw [e3.1, e3.2, hr, hg.1, hg.2]
        simp
    have e0 : anb (fun x => hit k w A s0 l0 G m a l x) (kn k) = anb (fun x => SS k w A s0 a l x && (decide (pc a + 1 ≤ pc s0 + m) && cr (SS k w A s0) G (pc s0 + m - (pc a + 1)) (a ||| 2 ^ x) x)) (kn k) := anb_cg hst
    rw [e0]
    unfold mr
    rw [hr, Bool.true_and]
    by_cases hlt : pc a + 1 ≤ pc s0 + m
    · have hG0 : G a l = false := by
        cases hg : G a l with
        | false => rfl
        | true => have := (hG a l hg).2; omega
      have e1 : pc s0 + m - pc a = (pc s0 + m - (pc a + 1)) + 1 := by omega
      have e2 : decide (pc a ≤ pc s0 + m) = true := by simp; omega
      have e3 : decide (pc a + 1 ≤ pc s0 + m) = true := by simp; omega
      rw [hG0, Bool.false_or, e1, cr_s, e2, Bool.true_and]
      simp only [e3, Bool.true_and]
      -- those from kn on don't come
      apply Bool.eq_iff_iff.mpr
      rw [anb_iff, anb_iff]
      constructor
      · rintro ⟨x, hx, hq⟩
        exact ⟨x, by omega, hq⟩
      · rintro ⟨x, hx, hq⟩
        exact ⟨x, (SS_i (Bool.and_eq_true_iff.mp hq).1).1, hq⟩
    · have e3 : decide (pc a + 1 ≤ pc s0 + m) = false := by simp; omega
      have e4 : anb (fun x => SS k w A s0 a l x && (decide (pc a + 1 ≤ pc s0 + m) && cr (SS k w A s0) G (pc s0 + m - (pc a + 1)) (a ||| 2 ^ x) x)) (kn k) = false := by
        cases hz : anb (fun x => SS k w A s0 a l x && (decide (pc a + 1 ≤ pc s0 + m) && cr (SS k w A s0) G (pc s0 + m - (pc a + 1)) (a ||| 2 ^ x) x)) (kn k) with
        | false => rfl
        | true =>
          obtain ⟨x, hx, hq⟩ := anb_iff.mp hz
          simp [e3] at hq
      rw [e4, Bool.or_false]
      by_cases heq : pc a = pc s0 + m
      · rw [heq, Nat.sub_self]
        simp [cr]
      · have e5 : decide (pc a ≤ pc s0 + m) = false := by simp; omega
        rw [e5, Bool.false_and]
        cases hg : G a l with
        | false => rfl
        | true => exact absurd (hG a l hg).2 heq
