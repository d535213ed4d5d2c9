/-! ## how it goes on, from the outside -/
theorem tb_1024 (i : Nat) : (1024 : Nat).testBit i = decide (i = 10) := by
  have := Nat.testBit_two_pow (n := 10) (m := i)
  rw [show (1024 : Nat) = 2 ^ 10 from rfl, this]
  simp [eq_comm]
theorem nr_tb {k : Kt} (w : Lw) {x l : Nat} (hl : l < 10) : (nr k w x).testBit l = ((ksh k (lsh w) x).testBit l && !(lhe w == 2 && ((khot k).testBit l == (khot k).testBit x))) := by
  have h0 : (1024 : Nat).testBit l = false := by
    rw [tb_1024]
    simp
    omega
  unfold nr
  by_cases he : lhe w = 2
  · rw [if_pos he, he]
    cases hhx : (khot k).testBit x with
    | true =>
      rw [if_pos rfl, nd_tb, Nat.testBit_or, h0]
      cases (khot k).testBit l <;> simp
    | false =>
      rw [if_neg (by decide), Nat.testBit_and, Nat.testBit_or, Nat.testBit_or, h0]
      cases (khot k).testBit l <;> simp
  · rw [if_neg he, Nat.testBit_or, h0]
    have : (lhe w == 2) = false := by simpa using he
    rw [this]
    simp
theorem nr_10 {k : Kt} (hk : Kok k) (w : Lw) (x : Nat) : (nr k w x).testBit 10 = true := by
  have hkh : khot k < 2 ^ 10 := bm_lt' _ hk.1
  unfold nr
  split
  · split
    · rw [nd_tb, Nat.testBit_or, tb_hi hkh (Nat.le_refl 10), tb_1024]
      simp
    · rw [Nat.testBit_and, Nat.testBit_or, Nat.testBit_or, tb_1024]
      simp
  · rw [Nat.testBit_or, tb_1024]
    simp
/-- which ones can be behind l, as near tells it -/
def nra (k : Kt) (w : Lw) (l : Nat) : Nat := if l = 10 then 2047 else nr k w l
theorem nra_lt {k : Kt} (hk : Kok k) (w : Lw) (l : Nat) : nra k w l < 2048 := by
  unfold nra
  split
  · decide
  · exact nr_lt hk w l
theorem nr_sym {k : Kt} (hk : Kok k) (w : Lw) {x l : Nat} (hx : x < kn k) (hl : l = 10 ∨ l < kn k) : (nra k w l).testBit x = (nr k w x).testBit l := by
  have h10 := hk.1
  have ht : ∀ x, x < 11 → (2047 : Nat).testBit x = true := by decide
  rcases hl with rfl | hl
  · rw [nr_10 hk]
    exact ht x (by omega)
  · unfold nra
    rw [if_neg (by omega), nr_tb w (by omega), nr_tb w (by omega), ksh_sym hx hl]
    congr 3
    cases (khot k).testBit x <;> cases (khot k).testBit l <;> rfl
def SP (μ : jM) (k : Kt) (w : Lw) (A : Ap) (s0 l0 : Nat) : Prop := TL μ k w ∧ TB μ s0 l0 A ∧ Sok k s0 l0 ∧ ∀ s : Nat, s < 2 ^ kn k → μ 31 s = (re k w A s0 l0 s : Int)
theorem SP_cg {μ μ' : jM} {k : Kt} {w : Lw} {A : Ap} {s0 l0 : Nat} (h : SP μ k w A s0 l0) (e : ∀ q, 29 ≤ q → q ≤ 35 → μ' q = μ q) : SP μ' k w A s0 l0 := by
  obtain ⟨h1, h2, h3, h4⟩ := h
  refine ⟨TL_cg h1 (fun q hq => e q (by omega) (by omega)) (fun j _ => by rw [e 29 (by decide) (by decide)]), TB_cg h2 (by rw [e 29 (by decide) (by decide)]) (by rw [e 29 (by decide) (by decide)]) (e 33 (by decide) (by decide)), h3, fun s hs => ?_⟩
  rw [e 31 (by decide) (by decide)]
  exact h4 s hs
theorem Sok_b {k : Kt} {b : List Nat} (h : Bok (kn k) b) : Sok k (bset b) (bla b) := by
  refine ⟨bset_lt h.2, ?_⟩
  by_cases hb : b = []
  · subst hb
    exact Or.inl ⟨rfl, rfl⟩
  · have hm := bla_mem hb
    exact Or.inr ⟨h.2 _ hm, by rw [bset_tb]; simpa using hm⟩
theorem Sok_0 (k : Kt) : Sok k 0 10 := ⟨Nat.two_pow_pos _, Or.inl ⟨rfl, rfl⟩⟩
theorem alw_1023 : alw 1023 (fun _ => true) := Or.inl ⟨1023, by decide, rfl, by decide⟩
theorem c_X11_goOn (d : Nat) {μ : jM} {k : Kt} {w : Lw} {b : List Nat} (hk : KI μ k) (hw : LI μ 16 w) (hb : BI μ 20 b) (hbk : Bok (kn k) b) {v : Int} {P : Nat → Bool} (hv : alw v P) : ∃ μ', CL (d + 5) 178 [jR 0, jI v] μ = rV μ' ∧ (∀ q, q < 29 ∨ 35 < q → μ' q = μ q) ∧ SP μ' k w (fun _ => P) (bset b) (bla b) := by
  have hS := Sok_b hbk
  have hl0 : bla b ≤ 10 := by
    have := hk.1.1
    rcases hS.2 with z | z <;> omega
  obtain ⟨μ1, e1, f1, g1, t1⟩ := c_X8_learn d hw hk
  have hb1 : BI μ1 20 b := BI_cg hb (f1 20 (by decide) (by decide) (by decide) (by decide) (by decide)) (f1 21 (by decide) (by decide) (by decide) (by decide) (by decide))
  obtain ⟨μ2, e2, f2, g2, t2⟩ := c_X8_begin (d + 2) μ1 (bset b) (bla b) v P hl0 hv
  have t12 : TL μ2 k w := TL_cg t1 (fun q hq => f2 q (by omega) (by omega)) (fun j hj => g2 j (by omega) (by omega))
  obtain ⟨μ3, e3, f3, g3⟩ := c_X8_reach d t12 t2 hS
  refine ⟨μ3, ?_, fun q hq => ?_, ?_⟩
  · rw [e_X11_goOn, e1, bV_r, c_X0_set _ hb1, bI_r, c_X0_last _ hb1, bI_r, e2, bV_r, e3, bV_r]
  · rw [f3 q (by omega), f2 q (by omega) (by omega), f1 q (by omega) (by omega) (by omega) (by omega) (by omega)]
  · exact ⟨TL_cg t12 (fun q hq => f3 q (by omega)) (fun j _ => by rw [f3 29 (by decide)]), TB_cg t2 (by rw [f3 29 (by decide)]) (by rw [f3 29 (by decide)]) (f3 33 (by decide)), hS, g3⟩
theorem c_X11_beginAnew (d : Nat) {μ : jM} {p : Nat} {k : Kt} {w : Lw} (hk : KI μ k) (hw : LI μ p w) : ∃ μ', CL (d + 5) 179 [jR 0, jR p] μ = rV μ' ∧ (∀ q, q < 29 ∨ 35 < q → μ' q = μ q) ∧ TL μ' k w ∧ TB μ' 0 10 (fun _ _ => true) := by
  obtain ⟨μ1, e1, f1, g1, t1⟩ := c_X8_learn d hw hk
  obtain ⟨μ2, e2, f2, g2, t2⟩ := c_X8_begin (d + 2) μ1 0 10 1023 (fun _ => true) (Nat.le_refl 10) alw_1023
  refine ⟨μ2, ?_, fun q hq => ?_, ?_, t2⟩
  · rw [e_X11_beginAnew, e1, bV_r, show CL (d + 4) 108 [jR 29, jI 0, jI (-1), jI 1023] μ1 = rV μ2 from e2, bV_r]
  · rw [f2 q (by omega) (by omega), f1 q (by omega) (by omega) (by omega) (by omega) (by omega)]
  · exact TL_cg t1 (fun q hq => f2 q (by omega) (by omega)) (fun j hj => g2 j (by omega) (by omega))
theorem c_reach (d : Nat) {μ : jM} {k : Kt} {w : Lw} {s0 l0 : Nat} {A : Ap} (h : TL μ k w) (hb : TB μ s0 l0 A) (h0 : Sok k s0 l0) : ∃ μ', CL (d + 4) 121 [jR 29] μ = rV μ' ∧ (∀ q, q ≠ 31 → μ' q = μ q) ∧ SP μ' k w A s0 l0 := by
  obtain ⟨μ3, e3, f3, g3⟩ := c_X8_reach d h hb h0
  exact ⟨μ3, e3, f3, TL_cg h (fun q hq => f3 q (by omega)) (fun j _ => by rw [f3 29 (by decide)]), TB_cg hb (by rw [f3 29 (by decide)]) (by rw [f3 29 (by decide)]) (f3 33 (by decide)), h0, g3⟩
/-- small ones -/
theorem c_dishes (d : Nat) {μ : jM} {k : Kt} {w : Lw} {A : Ap} {s0 l0 : Nat} (h : SP μ k w A s0 l0) : CL (d + 1) 110 [jR 29] μ = rI (kn k : Int) μ := by rw [e_X8_dishes, h.1.2.2.1]
theorem c_from (d : Nat) {μ : jM} {k : Kt} {w : Lw} {A : Ap} {s0 l0 : Nat} (h : SP μ k w A s0 l0) : CL (d + 1) 112 [jR 29] μ = rI (s0 : Int) μ := by rw [e_X8_from, h.2.1.1]
theorem c_start (d : Nat) {μ : jM} {k : Kt} {w : Lw} {A : Ap} {s0 l0 : Nat} (h : SP μ k w A s0 l0) : CL (d + 1) 113 [jR 29] μ = rI (l0 : Int) μ := by rw [e_X8_start, h.2.1.2.1]
theorem c_hot (d : Nat) {μ : jM} {k : Kt} {w : Lw} {A : Ap} {s0 l0 : Nat} (h : SP μ k w A s0 l0) : CL (d + 1) 114 [jR 29] μ = rI (khot k : Int) μ := by rw [e_X8_hot, h.1.2.2.2.1]
theorem c_stay (d : Nat) {μ : jM} {k : Kt} {w : Lw} {A : Ap} {s0 l0 : Nat} (h : SP μ k w A s0 l0) : CL (d + 1) 115 [jR 29] μ = rI (if lhe w = 1 then 1 else 0) μ := by
  have e := h.1.2.2.2.2.1
  rw [e_X8_isHotToStay, e, gd_t (by split <;> omega)]
theorem c_sets (d : Nat) {μ : jM} {k : Kt} {w : Lw} {A : Ap} {s0 l0 : Nat} (h : SP μ k w A s0 l0) : CL (d + 1) 111 [jR 29] μ = rI ((2 ^ kn k : Nat) : Int) μ := c_X8_sets d h.1.2.2.1 h.1.1.1
theorem c_near (d : Nat) {μ : jM} {k : Kt} {w : Lw} {A : Ap} {s0 l0 : Nat} (h : SP μ k w A s0 l0) (x : Nat) (hx : x = 10 ∨ x < kn k) : CL (d + 1) 116 [jR 29, jI x] μ = rI (nra k w x : Int) μ := c_X8_near d h.1 x (by omega)
theorem c_open (d : Nat) {μ : jM} {k : Kt} {w : Lw} {A : Ap} {s0 l0 : Nat} (h : SP μ k w A s0 l0) (s : Nat) (hs : s < 2 ^ kn k) : CL (d + 3) 120 [jR 29, jI s] μ = rI (opn k w A s0 s : Int) μ := c_X8_open d h.1 h.2.1 h.2.2.1.1 s hs
theorem c_more (d : Nat) {μ : jM} {k : Kt} {w : Lw} {A : Ap} {s0 l0 : Nat} (h : SP μ k w A s0 l0) (s : Nat) (hs : s < 2 ^ kn k) : CL (d + 2) 119 [jR 29, jI s] μ = rI ((pc s : Int) - (pc s0 : Int)) μ := by
  have h2 := p2_le h.1.1.1
  have h3 := h.2.2.1.1
  exact c_X8_more d h.2.1 s (by omega) (by omega)
theorem c_ends (d : Nat) {μ : jM} {k : Kt} {w : Lw} {A : Ap} {s0 l0 : Nat} (h : SP μ k w A s0 l0) (s : Nat) (hs : s < 2 ^ kn k) : CL (d + 1) 118 [jR 29, jI s] μ = rI (re k w A s0 l0 s : Int) μ := c_X8_ends d h.1.1 h.2.2.2 s hs
theorem SP_k {μ : jM} {k : Kt} {w : Lw} {A : Ap} {s0 l0 : Nat} (h : SP μ k w A s0 l0) : Kok k ∧ kn k ≤ 10 ∧ s0 < 2 ^ kn k ∧ 2 ^ kn k ≤ 1024 := ⟨h.1.1, h.1.1.1, h.2.2.1.1, p2_le h.1.1.1⟩
theorem Sok_10 {k : Kt} (hk : Kok k) {s l : Nat} (h : Sok k s l) : l ≤ 10 := by
  have := hk.1
  rcases h.2 with z | z <;> omega
