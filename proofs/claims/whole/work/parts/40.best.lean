/-! ## the best rows -/
theorem pc_le {s n : Nat} (hs : s < 2 ^ n) (hn : n ≤ 12) : pc s ≤ n := by
  rw [pc_cnt hs hn]
  exact cnt_le _ _
theorem rc_sub {k : Kt} {w : Lw} {A : Ap} {s0 l0 : Nat} : ∀ m s l, rc k w A s0 l0 m s l = true → ∀ i, s0.testBit i = true → s.testBit i = true
  | 0, s, l, h, i, hi => by
    simp only [rc, Bool.and_eq_true, beq_iff_eq] at h
    rw [h.1]
    exact hi
  | m + 1, s, l, h, i, hi => by
    simp only [rc, Bool.and_eq_true, decide_eq_true_eq] at h
    obtain ⟨l', -, h9⟩ := anb_iff.mp h.2
    rw [Bool.and_eq_true] at h9
    have := rc_sub m _ _ h9.1 i hi
    rw [nd_tb, Bool.and_eq_true] at this
    exact this.1
theorem cnt_nd {P Q : Nat → Bool} (h : ∀ i, Q i = true → P i = true) : ∀ n, cnt (fun i => P i && !Q i) n + cnt Q n = cnt P n
  | 0 => rfl
  | n + 1 => by
    have ih := cnt_nd h n
    have hn := h n
    show cnt _ n + (if (P n && !Q n) then 1 else 0) + (cnt Q n + (if Q n then 1 else 0)) = cnt P n + (if P n then 1 else 0)
    cases hq : Q n with
    | true =>
      rw [hn hq]
      simp
      omega
    | false =>
      cases P n <;> simp <;> omega
theorem pc_nd {s s0 : Nat} (hs : s < 1024) (h : ∀ i, s0.testBit i = true → s.testBit i = true) : pc (nd s s0) + pc s0 = pc s := by
  have h0 : s0 < 1024 := by
    have : s0 ≤ s := Nat.le_of_testBit h
    omega
  rw [pc_cnt (n := 10) (nd_lt2 hs) (by decide), pc_cnt (n := 10) h0 (by decide), pc_cnt (n := 10) hs (by decide), ← cnt_nd h 10]
  congr 1
  exact cnt_cg (fun i _ => nd_tb s s0 i)
theorem rr_nd {k : Kt} (hk : Kok k) {w : Lw} {A : Ap} {s0 l0 : Nat} (h0 : Sok k s0 l0) {s l : Nat} (h : rr k w A s0 l0 s l = true) : (pc (nd s s0) : Int) = (pc s : Int) - pc s0 := by
  have := pc_nd (Nat.lt_of_lt_of_le (rr_st hk h0 h).1 (p2_le hk.1)) (rc_sub _ _ _ h)
  omega
theorem sm_c (v : Int) (P : Nat → Bool) : ∀ n, sm (fun d => if P d then v else 0) n = v * (cnt P n : Nat)
  | 0 => by simp [sm, cnt]
  | n + 1 => by
    show sm _ n + (if P n then v else 0) = v * ((cnt P n + (if P n then 1 else 0) : Nat) : Int)
    rw [sm_c v P n, Int.natCast_add, Int.mul_add]
    cases P n <;> simp
theorem ws_c (v : Int) {t : Nat} (ht : t < 1024) : ws (fun _ => v) t = v * (pc t : Nat) := by
  rw [pc_cnt (n := 10) ht (by decide)]
  exact sm_c v _ 10
/-- all weights alike -/
theorem wo_c {k : Kt} (hk : Kok k) {w : Lw} {A : Ap} {s0 l0 : Nat} (h0 : Sok k s0 l0) {s l : Nat} (h : rr k w A s0 l0 s l = true) (v : Int) (hv : v = 1 ∨ v = -1) : wo (fun _ _ => v) (nd s s0) 1 = v * ((pc s : Int) - pc s0) := by
  have hs := Nat.lt_of_lt_of_le (rr_st hk h0 h).1 (p2_le hk.1)
  have h1 := rr_nd hk h0 h
  have h2 := pc_le (n := 10) hs (by decide)
  show min 1000000 (ws (fun _ => v) (nd s s0)) = _
  rw [ws_c v (nd_lt2 hs), h1]
  rcases hv with rfl | rfl <;> omega
theorem gl_iff {k : Kt} {w : Lw} {A : Ap} {s0 l0 L : Nat} {P : Int} {C : Nat → Int} {a b : Int} {s : Nat} : gl k w A s0 l0 L P C a b s = true ↔ (∃ l, l < 11 ∧ rr k w A s0 l0 s l = true ∧ L.testBit l = true) ∧ a ≤ (pc s : Int) - pc s0 ∧ (pc s : Int) - pc s0 ≤ b ∧ (P = 999 ∨ ws C (nd s s0) ≤ P) := by
  unfold gl
  rw [Bool.and_eq_true, Bool.and_eq_true, Bool.and_eq_true, Bool.or_eq_true, decide_eq_true_eq, decide_eq_true_eq, decide_eq_true_eq, decide_eq_true_eq]
  have : ((re k w A s0 l0 s &&& L) != 0) = true ↔ ∃ l, l < 11 ∧ rr k w A s0 l0 s l = true ∧ L.testBit l = true := by
    rw [bne_iff_ne]
    constructor
    · intro h
      cases hz : anb (fun l => rr k w A s0 l0 s l && L.testBit l) 11 with
      | true =>
        obtain ⟨l, h1, h2⟩ := anb_iff.mp hz
        rw [Bool.and_eq_true] at h2
        exact ⟨l, h1, h2⟩
      | false =>
        refine absurd (and_z.mpr (fun i hi => ?_)) h
        by_cases h11 : i < 11
        · have := anb_f hz h11
          rw [re_tb h11] at hi
          rw [hi.1, hi.2] at this
          cases this
        · rw [tb_hi (n := 11) (re_lt k w A s0 l0 s) (by omega)] at hi
          cases hi.1
    · rintro ⟨l, h1, h2, h3⟩ h
      exact and_z.mp h l ⟨by rw [re_tb h1]; exact h2, h3⟩
  rw [this]
/-- the best of the rows of a kind: its worth, how many DISHES, the least row -/
def BestP (k : Kt) (w : Lw) (A : Ap) (s0 l0 : Nat) (Gp : Nat → Nat → Bool) (v : Nat → Int) (g : Int) (m : Nat) (row : List Nat) : Prop := (∃ s l, Gp s l = true ∧ v s = g) ∧ (∀ s l, Gp s l = true → v s ≤ g) ∧ (∀ s l, Gp s l = true → v s = g → pc s = pc s0 + m) ∧ row = pth (SS k w A s0) (fun s l => Gp s l && decide (v s = g)) m s0 l0
theorem BestP_u {k : Kt} {w : Lw} {A : Ap} {s0 l0 : Nat} {Gp : Nat → Nat → Bool} {v : Nat → Int} {g g' : Int} {m m' : Nat} {row row' : List Nat} (h : BestP k w A s0 l0 Gp v g m row) (h' : BestP k w A s0 l0 Gp v g' m' row') : g = g' ∧ m = m' ∧ row = row' := by
  obtain ⟨⟨s, l, h1, h2⟩, h3, h4, h5⟩ := h
  obtain ⟨⟨s', l', h1', h2'⟩, h3', h4', h5'⟩ := h'
  have e1 := h3 s' l' h1'
  have e2 := h3' s l h1
  have eg : g = g' := by omega
  subst eg
  have e3 := h4 s l h1 h2
  have e4 := h4' s l h1 h2
  have em : m = m' := by omega
  subst em
  exact ⟨rfl, rfl, h5.trans h5'.symm⟩
theorem BestP_cg {k : Kt} {w : Lw} {A : Ap} {s0 l0 : Nat} {Gp Gp' : Nat → Nat → Bool} {v v' : Nat → Int} {g : Int} {m : Nat} {row : List Nat} (e : ∀ s l, Gp s l = Gp' s l) (e2 : ∀ s l, Gp s l = true → v s = v' s) (h : BestP k w A s0 l0 Gp v g m row) : BestP k w A s0 l0 Gp' v' g m row := by
  have e0 : Gp = Gp' := by
    funext s l
    exact e s l
  subst e0
  obtain ⟨⟨s, l, h1, h2⟩, h3, h4, h5⟩ := h
  refine ⟨⟨s, l, h1, by rw [← e2 s l h1]; exact h2⟩, fun s l hs => by rw [← e2 s l hs]; exact h3 s l hs, fun s l hs hv => h4 s l hs (by rw [e2 s l hs]; exact hv), ?_⟩
  rw [h5]
  congr 1
  funext s l
  cases hG : Gp s l with
  | false => rfl
  | true => rw [e2 s l hG]
/-- what a search comes to -/
def gpl (k : Kt) (w : Lw) (A : Ap) (s0 l0 L : Nat) (P : Int) (C : Nat → Int) (a b : Int) (s l : Nat) : Bool := rr k w A s0 l0 s l && (L.testBit l && gl k w A s0 l0 L P C a b s)
theorem c_seek (d : Nat) {μ : jM} {k : Kt} {w : Lw} {A : Ap} {s0 l0 : Nat} (h : SP μ k w A s0 l0) {n : Nat} {W : Nat → Nat → Int} {L : Nat} {P : Int} {C : Nat → Int} (hp : PI μ k n W L P C) (hW : ∀ i x, i < n → x < kn k → -100000 ≤ W i x ∧ W i x ≤ 100000) (hC : ∀ x, x < 10 → -100000 ≤ C x ∧ C x ≤ 100000) (a b : Int) (hv : ∀ s l, gpl k w A s0 l0 L P C a b s l = true → -1000000 < wo W (nd s s0) n) (hlen : ∀ s t g, gl k w A s0 l0 L P C a b s = true → gl k w A s0 l0 L P C a b t = true → wo W (nd s s0) n = g → wo W (nd t s0) n = g → pc s = pc t) : ∃ μ' g, CL (d + 5) 83 [jR 36, jR 29, jI a, jI b] μ = rI g μ' ∧ (∀ q, q ≠ 36 → q ≠ 44 → μ' q = μ q) ∧ (∀ j, j ≠ 7 → μ' 36 j = μ 36 j) ∧ ((g = -1000000 ∧ ∀ s l, gpl k w A s0 l0 L P C a b s l = false) ∨ (-1000000 < g ∧ ∃ m, m ≤ kn k ∧ μ' 36 7 = ((m : Nat) : Int) ∧ BestP k w A s0 l0 (gpl k w A s0 l0 L P C a b) (fun s => wo W (nd s s0) n) g m (pth (SS k w A s0) (fun s l => gpl k w A s0 l0 L P C a b s l && decide (wo W (nd s s0) n = g)) m s0 l0) ∧ cr (SS k w A s0) (fun s l => gpl k w A s0 l0 L P C a b s l && decide (wo W (nd s s0) n = g)) m s0 l0 = true ∧ (∀ s l, (gpl k w A s0 l0 L P C a b s l && decide (wo W (nd s s0) n = g)) = true → rr k w A s0 l0 s l = true ∧ pc s = pc s0 + m) ∧ ∀ s : Nat, s < 2 ^ kn k → μ' 44 s = (mk k w A s0 l0 (fun s l => gpl k w A s0 l0 L P C a b s l && decide (wo W (nd s s0) n = g)) m s : Int))) := by
  obtain ⟨hk, h10, h0, hN⟩ := SP_k h
  have hS0 := h.2.2.1
  obtain ⟨μ', e1, f1, g1, r1⟩ := c_X5_seek d h hp hW hC a b _ rfl (fun s t hs ht h1 h2 => hlen s t _ hs ht h1 h2)
  let g := mxo (gl k w A s0 l0 L P C a b) (fun s => wo W (nd s s0) n) (2 ^ kn k)
  have hgp : ∀ s l, gpl k w A s0 l0 L P C a b s l = true → rr k w A s0 l0 s l = true ∧ L.testBit l = true ∧ gl k w A s0 l0 L P C a b s = true := fun s l hs => by
    have h1 := Bool.and_eq_true_iff.mp hs
    have h2 := Bool.and_eq_true_iff.mp h1.2
    exact ⟨h1.1, h2.1, h2.2⟩
  refine ⟨μ', g, e1, f1, g1, ?_⟩
  by_cases hg : g = -1000000
  · refine Or.inl ⟨hg, fun s l => ?_⟩
    cases hs : gpl k w A s0 l0 L P C a b s l with
    | false => rfl
    | true =>
      obtain ⟨z1, z2, z3⟩ := hgp s l hs
      have h1 := mxo_ge (v := fun s => wo W (nd s s0) n) (rr_st hk hS0 z1).1 z3
      have h2 := hv s l hs
      have h3 : mxo (gl k w A s0 l0 L P C a b) (fun s => wo W (nd s s0) n) (2 ^ kn k) = -1000000 := hg
      rw [h3] at h1
      have h4 : wo W (nd s s0) n ≤ -1000000 := h1
      omega
  · obtain ⟨m, m1, m2, ⟨s', l', m3⟩, m4⟩ := r1 hg
    have eG : gls k w A s0 l0 L (fun s => gl k w A s0 l0 L P C a b s && decide (wo W (nd s s0) n = g)) = fun s l => gpl k w A s0 l0 L P C a b s l && decide (wo W (nd s s0) n = g) := by
      funext s l
      show (gl k w A s0 l0 L P C a b s && decide (wo W (nd s s0) n = g) && (rr k w A s0 l0 s l && L.testBit l)) = _
      unfold gpl
      cases gl k w A s0 l0 L P C a b s <;> cases decide (wo W (nd s s0) n = g) <;> cases rr k w A s0 l0 s l <;> cases L.testBit l <;> rfl
    rw [show mxo (gl k w A s0 l0 L P C a b) (fun s => wo W (nd s s0) n) (2 ^ kn k) = g from rfl, eG] at m2 m3 m4
    have h3 := Bool.and_eq_true_iff.mp m3
    have h4 := hgp s' l' h3.1
    have h5 := m2 s' l' m3
    have hst := rr_st hk hS0 h4.1
    have h6 := pc_le hst.1 (by omega)
    have hval : wo W (nd s' s0) n = g := by simpa using h3.2
    have hv' := hv s' l' h3.1
    refine Or.inr ⟨by omega, m, by omega, m1, ⟨⟨s', l', h3.1, hval⟩, fun s l hs => ?_, fun s l hs he => ?_, rfl⟩, ?_, m2, m4⟩
    · obtain ⟨z1, z2, z3⟩ := hgp s l hs
      exact mxo_ge (v := fun s => wo W (nd s s0) n) (rr_st hk hS0 z1).1 z3
    · exact (m2 s l (by show (gpl k w A s0 l0 L P C a b s l && decide (wo W (nd s s0) n = g)) = true; rw [hs]; simpa using he)).2
    · have hrc : rc k w A s0 l0 m s' l' = true := by
        have := h4.1
        unfold rr at this
        rw [h5.2, Nat.add_sub_cancel_left] at this
        exact this
      have := rc_cr hk hS0 (G := fun s l => gpl k w A s0 l0 L P C a b s l && decide (wo W (nd s s0) n = g)) m (r := 0) hrc m3
      exact this
/-- rows of the most DISHES -/
theorem gpl_all {k : Kt} (hk : Kok k) {w : Lw} {A : Ap} {s0 l0 : Nat} (h0 : Sok k s0 l0) {C : Nat → Int} (s l : Nat) : gpl k w A s0 l0 2047 999 C 0 10 s l = rr k w A s0 l0 s l := by
  unfold gpl
  cases hr : rr k w A s0 l0 s l with
  | false => rfl
  | true =>
    have hst := rr_st hk h0 hr
    have h10 := hk.1
    have ht : ∀ x, x < 11 → (2047 : Nat).testBit x = true := by decide
    have h6 := pc_le hst.1 (by omega)
    rw [ht l (by omega), gl_iff.mpr ⟨⟨l, by omega, hr, ht l (by omega)⟩, by omega, by omega, Or.inl rfl⟩]
    rfl
/-- what searches change -/
def fPl (q : Nat) : Prop := q < 29 ∨ 51 < q
theorem c_X11_tellMost (d : Nat) {μ : jM} {k : Kt} {w : Lw} {A : Ap} {s0 l0 : Nat} (h : SP μ k w A s0 l0) (hk : KI μ k) {r : List Int} (hr : RI μ r) : ∃ μ' m row, CL (d + 6) 180 [jR 0] μ = rI ((m : Nat) : Int) μ' ∧ (∀ q, q < 36 ∨ 51 < q → μ' q = μ q) ∧ BestP k w A s0 l0 (rr k w A s0 l0) (fun s => (pc s : Int) - pc s0) (m : Nat) m row ∧ RI μ' (ri row) := by
  obtain ⟨hko, h10, h0, hN⟩ := SP_k h
  have hS0 := h.2.2.1
  obtain ⟨μ1, e1, f1, p1⟩ := c_X5_begin (d + 3) μ k (fun _ _ => 1)
  have k1 : KI μ1 k := KI_cg hk (fun q _ _ => f1 q (by omega) (by omega))
  obtain ⟨μ2, e2, f2, p2⟩ := c_X5_weighAll (d + 3) k1 p1 (by decide) 1 (fun _ => rfl)
  have s2 : SP μ2 k w A s0 l0 := SP_cg h (fun q _ _ => (f2 q (by omega)).trans (f1 q (by omega) (by omega)))
  have hval : ∀ s l, rr k w A s0 l0 s l = true → wo (fun _ _ => 1) (nd s s0) 1 = (pc s : Int) - pc s0 := fun s l hs => by
    rw [wo_c hko hS0 hs 1 (Or.inl rfl), Int.one_mul]
  obtain ⟨μ3, g, e3, f3, g3, r3⟩ := c_seek d s2 p2 (fun _ _ _ _ => by decide) (fun _ _ => by decide) 0 10 (fun s l hs => by
    rw [gpl_all hko hS0] at hs
    rw [hval s l hs]
    have := (rr_st hko hS0 hs).2.2
    omega) (fun s t g hs ht h1 h2 => by
    obtain ⟨⟨l, -, hl, -⟩, -⟩ := gl_iff.mp hs
    obtain ⟨⟨l', -, hl', -⟩, -⟩ := gl_iff.mp ht
    rw [hval s l hl] at h1
    rw [hval t l' hl'] at h2
    omega)
  rcases r3 with ⟨-, r3⟩ | ⟨hg, m, hm, m7, bp, hcr, hG, hmk⟩
  · have := r3 s0 l0
    rw [gpl_all hko hS0, rr_0] at this
    simp at this
  · have bp2 := BestP_cg (Gp' := rr k w A s0 l0) (v' := fun s => (pc s : Int) - pc s0) (fun s l => gpl_all hko hS0 s l) (fun s l hs => by
      rw [gpl_all hko hS0] at hs
      exact hval s l hs) bp
    have egm : g = (m : Int) := by
      obtain ⟨⟨s, l, h1, h2⟩, -, h4, -⟩ := bp2
      have := h4 s l h1 h2
      have h2 : (pc s : Int) - pc s0 = g := h2
      omega
    rw [egm] at bp2
    have f30 : ∀ q, q < 36 ∨ 51 < q → μ3 q = μ q := fun q hq => (f3 q (by omega) (by omega)).trans ((f2 q (by omega)).trans (f1 q (by omega) (by omega)))
    obtain ⟨μ4, e4, f4, r4⟩ := c_X7_clear (d + 4) (μ := μ3)
    have s4 : SP μ4 k w A s0 l0 := SP_cg h (fun q _ _ => (f4 q (by omega) (by omega)).trans (f30 q (by omega)))
    obtain ⟨μ5, e5, f5, r5⟩ := c_X5_tell (d + 1) s4 (by rw [f4 36 (by decide) (by decide)]; exact m7) (fun s hs => by rw [f4 44 (by decide) (by decide)]; exact hmk s hs) hcr r4 (by simp; omega)
    refine ⟨μ5, m, _, ?_, fun q hq => (f5 q (by omega) (by omega)).trans ((f4 q (by omega) (by omega)).trans (f30 q hq)), bp2, ?_⟩
    · rw [e_X11_tellMost, e1, bV_r, e2, bV_r, e3, bI_r, e4, bV_r, e5, bV_r, c_X7_size _ r5, bI_r]
      rw [List.nil_append, ri_len, pth_len]
    · rw [List.nil_append, egm] at r5
      have e6 : (fun s l => gpl k w A s0 l0 2047 999 (fun _ => 0) 0 10 s l && decide (wo (fun _ _ => 1) (nd s s0) 1 = ((m : Nat) : Int))) = fun s l => rr k w A s0 l0 s l && decide ((pc s : Int) - pc s0 = ((m : Nat) : Int)) := by
        funext s l
        rw [gpl_all hko hS0]
        cases hr : rr k w A s0 l0 s l with
        | false => rfl
        | true => rw [hval s l hr]
      rw [e6] at r5
      rw [bp2.2.2.2]
      exact r5
