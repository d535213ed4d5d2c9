/-! ## Plan seeks and tells -/
/-- a loop whose steps keep something true -/
theorem lp_i {σ β : Type} (f : Nat → σ → β) (I : Nat → σ → Prop) (n : Nat) (h : ∀ i s, i < n → I i s → ∃ s', f i s = f (i + 1) s' ∧ I (i + 1) s') : ∀ s, I 0 s → ∃ s', f 0 s = f n s' ∧ I n s' := by
  have key : ∀ j, j ≤ n → ∀ s, I 0 s → ∃ s', f 0 s = f j s' ∧ I j s' := by
    intro j
    induction j with
    | zero => exact fun _ s hs => ⟨s, rfl, hs⟩
    | succ j ih =>
      intro hj s hs
      obtain ⟨s1, e1, i1⟩ := ih (by omega) s hs
      obtain ⟨s2, e2, i2⟩ := h j s1 (by omega) i1
      exact ⟨s2, e1.trans e2, i2⟩
  exact key n (Nat.le_refl n)
/-- the same, counting down -/
theorem lp_j {σ β : Type} (f : Nat → σ → β) (I : Nat → σ → Prop) (n : Nat) (h : ∀ i s, i < n → I (i + 1) s → ∃ s', f (i + 1) s = f i s' ∧ I i s') : ∀ s, I n s → ∃ s', f n s = f 0 s' ∧ I 0 s' := by
  induction n with
  | zero => exact fun s hs => ⟨s, rfl, hs⟩
  | succ n ih =>
    intro s hs
    obtain ⟨s1, e1, i1⟩ := h n s (Nat.lt_succ_self n) hs
    obtain ⟨s2, e2, i2⟩ := ih (fun i s hi => h i s (by omega)) s1 i1
    exact ⟨s2, e1.trans e2, i2⟩
/-- the goals of a search: of the sets of the greatest worth the rows' ends -/
def gls (k : Kt) (w : Lw) (A : Ap) (s0 l0 L : Nat) (Q : Nat → Bool) (s l : Nat) : Bool := Q s && (rr k w A s0 l0 s l && L.testBit l)
theorem re_and {k : Kt} {w : Lw} {A : Ap} {s0 l0 L : Nat} {Q : Nat → Bool} {s : Nat} (hq : Q s = true) : re k w A s0 l0 s &&& L = bm (fun l => gls k w A s0 l0 L Q s l) 11 := by
  apply Nat.eq_of_testBit_eq
  intro i
  rw [Nat.testBit_and]
  unfold re gls
  rw [bm_tb, bm_tb, hq, Bool.true_and, Bool.and_assoc]
theorem bm_no {Q : Nat → Bool} (n : Nat) (h : ∀ i, i < n → Q i = false) : bm Q n = 0 := by
  apply Nat.eq_of_testBit_eq
  intro i
  rw [bm_tb, Nat.zero_testBit]
  by_cases hi : i < n
  · rw [h i hi, Bool.and_false]
  · simp [hi]
theorem rr_st {k : Kt} (hk : Kok k) {w : Lw} {A : Ap} {s0 l0 : Nat} (h0 : Sok k s0 l0) {s l : Nat} (h : rr k w A s0 l0 s l = true) : s < 2 ^ kn k ∧ l ≤ 10 ∧ pc s0 ≤ pc s := by
  have hi := rr_in hk h0 h
  exact ⟨hi.1.1, Sok_10 hk hi.1, hi.2⟩
theorem c_X5_seek (d : Nat) {μ : jM} {k : Kt} {w : Lw} {A : Ap} {s0 l0 : Nat} (h : SP μ k w A s0 l0) {n : Nat} {W : Nat → Nat → Int} {L : Nat} {P : Int} {C : Nat → Int} (hp : PI μ k n W L P C) (hW : ∀ i x, i < n → x < kn k → -100000 ≤ W i x ∧ W i x ≤ 100000) (hC : ∀ x, x < 10 → -100000 ≤ C x ∧ C x ≤ 100000) (a b : Int) (g : Int) (hg : g = mxo (gl k w A s0 l0 L P C a b) (fun s => wo W (nd s s0) n) (2 ^ kn k)) (hlen : ∀ s t, gl k w A s0 l0 L P C a b s = true → gl k w A s0 l0 L P C a b t = true → wo W (nd s s0) n = g → wo W (nd t s0) n = g → pc s = pc t) : ∃ μ', CL (d + 5) 83 [jR 36, jR 29, jI a, jI b] μ = rI g μ' ∧ (∀ q, q ≠ 36 → q ≠ 44 → μ' q = μ q) ∧ (∀ j, j ≠ 7 → μ' 36 j = μ 36 j) ∧ (g ≠ -1000000 → ∃ m : Nat, μ' 36 7 = (m : Int) ∧ (∀ s l, gls k w A s0 l0 L (fun s => gl k w A s0 l0 L P C a b s && decide (wo W (nd s s0) n = g)) s l = true → rr k w A s0 l0 s l = true ∧ pc s = pc s0 + m) ∧ (∃ s l, gls k w A s0 l0 L (fun s => gl k w A s0 l0 L P C a b s && decide (wo W (nd s s0) n = g)) s l = true) ∧ ∀ s : Nat, s < 2 ^ kn k → μ' 44 s = (mk k w A s0 l0 (gls k w A s0 l0 L (fun s => gl k w A s0 l0 L P C a b s && decide (wo W (nd s s0) n = g))) m s : Int)) := by
  obtain ⟨hk, h10, h0, hN⟩ := SP_k h
  let v : Nat → Int := fun s => wo W (nd s s0) n
  let Q : Nat → Bool := fun s => gl k w A s0 l0 L P C a b s && decide (v s = g)
  let G := gls k w A s0 l0 L Q
  have hQ : ∀ s, Q s = true → gl k w A s0 l0 L P C a b s = true ∧ v s = g := fun s hs => by
    have := Bool.and_eq_true_iff.mp hs
    exact ⟨this.1, by simpa using this.2⟩
  have hGpc : ∀ s l, G s l = true → Q s = true ∧ rr k w A s0 l0 s l = true ∧ L.testBit l = true := fun s l hs => by
    have h1 := Bool.and_eq_true_iff.mp hs
    have h2 := Bool.and_eq_true_iff.mp h1.2
    exact ⟨h1.1, h2.1, h2.2⟩
  -- a goal's ends are there
  have hQG : ∀ s, Q s = true → ∃ l, l < 11 ∧ G s l = true := fun s hs => by
    have h1 := (hQ s hs).1
    have h2 : (re k w A s0 l0 s &&& L) != 0 := by
      unfold gl at h1
      exact (Bool.and_eq_true_iff.mp h1).1
    rw [re_and (Q := Q) hs] at h2
    cases hz : anb (fun l => G s l) 11 with
    | true => exact anb_iff.mp hz
    | false =>
      have := bm_no 11 (fun i hi => anb_f hz hi)
      rw [show bm (fun l => gls k w A s0 l0 L Q s l) 11 = 0 from this] at h2
      simp at h2
  have hp1 : ∀ μ1 : jM, (∀ q, q ≠ 36 → q ≠ 44 → μ1 q = μ q) → (∀ j, j ≠ 7 → μ1 36 j = μ 36 j) → SP μ1 k w A s0 l0 ∧ PI μ1 k n W L P C := fun μ1 f1 f2 => ⟨SP_cg h (fun q _ _ => f1 q (by omega) (by omega)), PI_cg hp (fun q _ _ h1 h2 => f1 q h2 h1) f2⟩
  have hfill : ∀ d, CL (d + 1) 1 [jR 44, jI 0] μ = rV (jpre μ 44 (fun _ => 0) 1024) := fun d => c_fill d μ 44 1024 0 (by decide) (by decide)
  let μ0 : jM := jup (jpre μ 44 (fun _ => 0) 1024) 36 7 0
  have f01 : ∀ q, q ≠ 36 → q ≠ 44 → μ0 q = μ q := fun q h1 h2 => (jup_ne h1).trans (jpre_ne h2)
  have f02 : ∀ j, j ≠ 7 → μ0 36 j = μ 36 j := fun j hj => (jup_m hj).trans (by rw [jpre_ne (by decide)])
  rw [e_X5_seek, c_X5_greatest _ h hp hW hC a b, bI_r, hfill, bV_r, ← hg]
  by_cases hgi : g = -1000000
  · rw [if_pos hgi]
    exact ⟨μ0, rfl, f01, f02, fun z => absurd hgi z⟩
  · rw [if_neg hgi]
    obtain ⟨s', hs', hq', hv'⟩ := mxo_at (by rw [← hg]; exact hgi)
    have hQs' : Q s' = true := by
      show (gl k w A s0 l0 L P C a b s' && decide (wo W (nd s' s0) n = g)) = true
      rw [hq', hg, hv']
      simp
    obtain ⟨l', hl', hGs'⟩ := hQG s' hQs'
    have hrr' := (hGpc s' l' hGs').2.1
    have hpc' := rr_pc hk h.2.2.1 hrr'
    let m : Nat := pc s' - pc s0
    have hGm : ∀ s l, G s l = true → rr k w A s0 l0 s l = true ∧ pc s = pc s0 + m := fun s l hs => by
      have h1 := hGpc s l hs
      have h2 := hQ s h1.1
      have h3 := hQ s' hQs'
      have := hlen s s' h2.1 h3.1 h2.2 h3.2
      exact ⟨h1.2.1, by omega⟩
    have hQm : ∀ s, Q s = true → pc s = pc s0 + m := fun s hs => by
      obtain ⟨l, -, hl⟩ := hQG s hs
      exact (hGm s l hl).2
    have hQ0 : ∀ s, s < s0 → Q s = false := fun s hs => by
      cases hq : Q s with
      | false => rfl
      | true => have := gl_ge (hQ s hq).1; omega
    have bmn : ∀ s, Q s = false → bm (fun l => G s l) 11 = 0 := fun s hs => bm_no 11 (fun i _ => by
      show (Q s && _) = false
      rw [hs, Bool.false_and])
    let f : Nat → jM → Option jO := fun j μ1 => EV (d + 4) T_X5_seek 1 [some (jR 36), some (jR 29), some (jI a), some (jI b), some (jI g), some (jI (s0 + j : Nat))] [] μ1
    let I : Nat → jM → Prop := fun j μ1 => (∀ q, q ≠ 36 → q ≠ 44 → μ1 q = μ q) ∧ (∀ j, j ≠ 7 → μ1 36 j = μ 36 j) ∧ (∀ s : Nat, s < 2 ^ kn k → μ1 44 s = ((if s < s0 + j then bm (fun l => G s l) 11 else 0 : Nat) : Int)) ∧ (anb Q (s0 + j) = true → μ1 36 7 = (m : Int))
    obtain ⟨μ1, e1, i1, i2, i3, i4⟩ := lp_i f I (2 ^ kn k - s0) (fun j μ1 hj hI => by
      obtain ⟨i1, i2, i3, i4⟩ := hI
      obtain ⟨hs1, hp1⟩ := hp1 μ1 i1 i2
      have hs : s0 + j < 2 ^ kn k := by omega
      have stay : Q (s0 + j) = false → I (j + 1) μ1 := fun hq => ⟨i1, i2, fun s hs => by
        rw [i3 s hs]
        by_cases h1 : s < s0 + j
        · rw [if_pos h1, if_pos (by omega)]
        · rw [if_neg h1]
          by_cases h2 : s = s0 + j
          · rw [if_pos (by omega), h2, bmn _ hq]
          · rw [if_neg (by omega)], fun hz => i4 (by
          rw [show s0 + (j + 1) = (s0 + j) + 1 from rfl] at hz
          have : (anb Q (s0 + j) || Q (s0 + j)) = true := hz
          rw [hq, Bool.or_false] at this
          exact this)⟩
      show ∃ s', EV (d + 4) T_X5_seek 1 _ [] μ1 = _ ∧ _
      rw [e_X5_seek_1, c_sets _ hs1, bI_r, if_pos (by omega), if_pos (by omega), if_neg (by omega), c_X5_isGoal _ hs1 hp1 hC a b _ hs, bI_r, w_s _ (by omega)]
      cases hq : gl k w A s0 l0 L P C a b (s0 + j) with
      | false => exact ⟨μ1, if_pos rfl, stay (by show (gl k w A s0 l0 L P C a b (s0 + j) && _) = false; rw [hq, Bool.false_and])⟩
      | true =>
        rw [if_pos rfl, if_neg (by decide), c_X5_worth _ hs1 hp1 hW _ hs, bI_r]
        by_cases hv : wo W (nd (s0 + j) s0) n = g
        · have hQt : Q (s0 + j) = true := by
            show (gl k w A s0 l0 L P C a b (s0 + j) && decide (wo W (nd (s0 + j) s0) n = g)) = true
            rw [hq, hv]
            simp
          have hre := re_lt k w A s0 l0 (s0 + j)
          have hL := hp1.2.2.1.2.1
          have h5 := hp1.2.2.1.1
          have hpm := hQm _ hQt
          rw [if_pos hv, c_ends _ hs1 _ hs, bI_r, gd_t (by omega), h5, and_nn _ _ (by omega) (by omega), c_more _ (SP_u hs1 44 (by omega) _ _) _ hs, bI_r]
          refine ⟨_, rfl, fun q h1 h2 => by rw [jup_ne h1, jup_ne h2]; exact i1 q h1 h2, fun j hj => by rw [jup_m hj, jup_ne (by decide)]; exact i2 j hj, fun s hs => ?_, fun _ => by rw [jup_r]; omega⟩
          rw [jup_ne (by decide)]
          by_cases h2 : s = s0 + j
          · rw [if_pos (by omega), h2, jup_r, re_and (Q := Q) hQt]
          · rw [jup_m (by omega), i3 s hs]
            by_cases h1 : s < s0 + j
            · rw [if_pos h1, if_pos (by omega)]
            · rw [if_neg h1, if_neg (by omega)]
        · rw [if_neg hv]
          exact ⟨μ1, rfl, stay (by
            show (gl k w A s0 l0 L P C a b (s0 + j) && decide (wo W (nd (s0 + j) s0) n = g)) = false
            simp [hv])⟩) μ0 ⟨f01, f02, fun s hs => by
        rw [show μ0 44 s = 0 from (by show jup _ _ _ _ _ _ = _; rw [jup_ne (by decide)]; exact jpre_lo (show s < 1024 by omega))]
        by_cases h1 : s < s0 + 0
        · rw [if_pos h1, bmn _ (hQ0 s (by omega))]
          rfl
        · rw [if_neg h1]
          rfl, fun hz => by
        obtain ⟨s, hs, hq⟩ := anb_iff.mp hz
        rw [hQ0 s (by omega)] at hq
        cases hq⟩
    obtain ⟨hs1, hp1⟩ := hp1 μ1 i1 i2
    have eN : s0 + (2 ^ kn k - s0) = 2 ^ kn k := by omega
    obtain ⟨μ2, e2, f2, g2⟩ := c_X5_lead d hs1 (G := G) (m := m) hGm (fun s hs => by
      rw [i3 s hs, eN, if_pos hs])
    have h7 : μ1 36 7 = (m : Int) := i4 (by
      rw [eN]
      exact anb_iff.mpr ⟨s', hs', hQs'⟩)
    refine ⟨μ2, ?_, fun q h1 h2 => (f2 q h2).trans (i1 q h1 h2), fun j hj => by rw [f2 36 (by decide)]; exact i2 j hj, fun _ => ⟨m, by rw [f2 36 (by decide)]; exact h7, hGm, ⟨s', l', hGs'⟩, g2⟩⟩
    rw [c_from _ (SP_cg h (fun q _ _ => f01 q (by omega) (by omega))), bI_r]
    refine Eq.trans e1 ?_
    show EV (d + 4) T_X5_seek 1 _ [] μ1 = _
    rw [e_X5_seek_1, c_sets _ hs1, bI_r, eN, if_neg (by omega), e2, bV_r]
/-! ## telling -/
theorem mk_tb {k : Kt} {w : Lw} {A : Ap} {s0 l0 : Nat} {G : Nat → Nat → Bool} {m s l : Nat} (hl : l < 11) : (mk k w A s0 l0 G m s).testBit l = mr k w A s0 l0 G m s l := by
  unfold mk
  rw [bm_tb]
  simp [hl]
/-- a row of numbers, as the ROW holds it -/
def ri (l : List Nat) : List Int := List.map (fun (x : Nat) => (x : Int)) l
theorem ri_len (l : List Nat) : (ri l).length = l.length := by
  unfold ri
  rw [List.length_map]
theorem c_X5_tell (d : Nat) {μ : jM} {k : Kt} {w : Lw} {A : Ap} {s0 l0 : Nat} (h : SP μ k w A s0 l0) {G : Nat → Nat → Bool} {m : Nat} (hm : μ 36 7 = (m : Int)) (hmk : ∀ s : Nat, s < 2 ^ kn k → μ 44 s = (mk k w A s0 l0 G m s : Int)) (hc : cr (SS k w A s0) G m s0 l0 = true) {r : List Int} (hr : RI μ r) (hlen : r.length + m ≤ 20) : ∃ μ', CL (d + 4) 89 [jR 36, jR 29, jR 50] μ = rV μ' ∧ (∀ q, q ≠ 50 → q ≠ 51 → μ' q = μ q) ∧ RI μ' (r ++ ri (pth (SS k w A s0) G m s0 l0)) := by
  obtain ⟨hk, h10, h0, hN⟩ := SP_k h
  have key : ∀ (r' i s l : Nat) (μ1 : jM) (ro : List Int), i + r' = m → (∀ q, q ≠ 50 → q ≠ 51 → μ1 q = μ q) → RI μ1 ro → ro.length + r' ≤ 20 → rr k w A s0 l0 s l = true → pc s = pc s0 + i → cr (SS k w A s0) G r' s l = true → ∃ μ', EV (d + 3) T_X5_tell 1 [some (jR 36), some (jR 29), some (jR 50), some (jI s), some (jI l), some (jI i), none, none] [] μ1 = rV μ' ∧ (∀ q, q ≠ 50 → q ≠ 51 → μ' q = μ q) ∧ RI μ' (ro ++ ri (pth (SS k w A s0) G r' s l)) := by
    intro r'
    induction r' with
    | zero =>
      intro i s l μ1 ro hi f1 hro hle hrr hpc hcr
      refine ⟨μ1, ?_, f1, by rw [show pth (SS k w A s0) G 0 s l = [] from rfl]; simpa [ri] using hro⟩
      rw [e_X5_tell_1, f1 36 (by decide) (by decide), hm, if_neg (by omega)]
    | succ r' ih =>
      intro i s l μ1 ro hi f1 hro hle hrr hpc hcr
      have hst := rr_st hk h.2.2.1 hrr
      have hS := (rr_in hk h.2.2.1 hrr).1
      have hsp : SP μ1 k w A s0 l0 := SP_cg h (fun q _ _ => f1 q (by omega) (by omega))
      let Pd : Nat → Bool := fun x => SS k w A s0 s l x && cr (SS k w A s0) G r' (s ||| 2 ^ x) x
      have ha : anb Pd 10 = true := hcr
      have hfs := (fs_anb Pd 10).mpr ha
      obtain ⟨-, hf2, hf3⟩ := fs_spec Pd 10
      have hP := Bool.and_eq_true_iff.mp (hf3 hfs)
      have hon := nxt_lt hk w A s0 s l
      have hop := opn_lt hk w A s0 s
      have hna := nra_lt hk w l
      have mkx : ∀ x, x < 10 → SS k w A s0 s l x = true → CL (d + 3) 88 [jR 36, jI (s ||| 2 ^ x : Nat), jI x] μ1 = rI (if cr (SS k w A s0) G r' (s ||| 2 ^ x) x then 1 else 0) μ1 := by
        intro x hx hS1
        have hx2 := (SS_i hS1).1
        have hg := rr_go hk h.2.2.1 hrr hS1
        have hol := or_lt (k := k) hst.1 hx2
        rw [c_X5_isMarked _ μ1 (s ||| 2 ^ x) x (mk k w A s0 l0 G m (s ||| 2 ^ x)) (by omega) (by omega) (mk_lt _ _ _ _ _ _ _ _) (by rw [f1 44 (by decide) (by decide)]; exact hmk _ hol), mk_tb (by omega)]
        have e : mr k w A s0 l0 G m (s ||| 2 ^ x) x = cr (SS k w A s0) G r' (s ||| 2 ^ x) x := by
          unfold mr
          rw [hg.1, hg.2, hpc, Bool.true_and, show pc s0 + m - (pc s0 + i + 1) = r' by omega]
          have : decide (pc s0 + i + 1 ≤ pc s0 + m) = true := by simp; omega
          rw [this, Bool.true_and]
        rw [e]
      have hstep : ∀ x : Nat, x < 10 → EV (d + 3) T_X5_tell 2 [some (jR 36), some (jR 29), some (jR 50), some (jI s), none, some (jI i), some (jI (opn k w A s0 s &&& nra k w l : Nat)), some (jI x)] [] μ1 = if Pd x then bV (CL (d + 3) 105 [jR 50, jI x] μ1) (fun μ3 => EV (d + 3) T_X5_tell 1 [some (jR 36), some (jR 29), some (jR 50), some (jI (s ||| 2 ^ x : Nat)), some (jI x), some (jI (i + 1 : Nat)), none, none] [] μ3) else EV (d + 3) T_X5_tell 2 [some (jR 36), some (jR 29), some (jR 50), some (jI s), none, some (jI i), some (jI (opn k w A s0 s &&& nra k w l : Nat)), some (jI (x + 1 : Nat))] [] μ1 := by
        intro x hx
        have h2x := p2_le (show x ≤ 10 by omega)
        rw [e_X5_tell_2, if_pos (by omega), tb_1 _ x (by omega) (by omega), nxt_tb hk hS hst.2.2 x, shl_1 _ (by omega), or_nn s _ (by omega) (by omega), w_s x (by omega), w_s i (by omega)]
        show _ = if (SS k w A s0 s l x && cr (SS k w A s0) G r' (s ||| 2 ^ x) x) then _ else _
        cases hS1 : SS k w A s0 s l x with
        | false => rfl
        | true =>
          rw [if_pos rfl, if_neg (by decide), mkx x hx hS1, bI_r, Bool.true_and]
          cases cr (SS k w A s0) G r' (s ||| 2 ^ x) x <;> rfl
      obtain ⟨μ3, e3, f3, r3⟩ := c_X7_add (d + 2) hro ((fs Pd 10 : Nat) : Int) (by omega)
      have hg := rr_go hk h.2.2.1 hrr hP.1
      obtain ⟨μ4, e4, f4, r4⟩ := ih (i + 1) (s ||| 2 ^ fs Pd 10) (fs Pd 10) μ3 (ro ++ [((fs Pd 10 : Nat) : Int)]) (by omega) (fun q h1 h2 => (f3 q h1 h2).trans (f1 q h1 h2)) r3 (by rw [List.length_append, List.length_singleton]; omega) hg.1 (by rw [hg.2]; omega) hP.2
      refine ⟨μ4, ?_, f4, ?_⟩
      · rw [e_X5_tell_1, f1 36 (by decide) (by decide), hm, if_pos (by omega), c_open _ hsp _ hst.1, bI_r, c_near _ hsp l (by rcases hS.2 with z | z; exact Or.inl z.1; exact Or.inr z.1), bI_r, and_nn _ _ (by omega) (by omega)]
        refine (lp_fs (fun x : Nat => EV (d + 3) T_X5_tell 2 [some (jR 36), some (jR 29), some (jR 50), some (jI s), none, some (jI i), some (jI (opn k w A s0 s &&& nra k w l : Nat)), some (jI x)] [] μ1) Pd 10 (fun x hx hp _ => ?_)).trans ?_
        · rw [hstep x hx, hp]
          rfl
        · rw [hstep _ hfs, hf3 hfs, if_pos rfl, e3, bV_r, e4]
      · have : ro ++ ri (pth (SS k w A s0) G (r' + 1) s l) = (ro ++ [((fs Pd 10 : Nat) : Int)]) ++ ri (pth (SS k w A s0) G r' (s ||| 2 ^ fs Pd 10) (fs Pd 10)) := by
          rw [List.append_assoc]
          rfl
        rw [this]
        exact r4
  obtain ⟨μ', e', f', r'⟩ := key m 0 s0 l0 μ r (Nat.zero_add m) (fun _ _ _ => rfl) hr hlen (by rw [rr_0]; simp) rfl hc
  refine ⟨μ', ?_, f', r'⟩
  rw [e_X5_tell, c_from _ h, bI_r, c_start _ h, bI_r]
  exact e'
/-- DISHES that are at a place of some row marked -/
def pso (k : Kt) (w : Lw) (A : Ap) (s0 l0 : Nat) (G : Nat → Nat → Bool) (m p : Nat) : Nat → Nat
  | 0 => 0
  | s + 1 => pso k w A s0 l0 G m p s ||| (if (pc s : Int) - pc s0 = p + 1 then mk k w A s0 l0 G m s else 0)
theorem pso_lt (k : Kt) (w : Lw) (A : Ap) (s0 l0 : Nat) (G : Nat → Nat → Bool) (m p : Nat) : ∀ n, pso k w A s0 l0 G m p n < 2048
  | 0 => (by show (0 : Nat) < 2048; decide)
  | s + 1 => by
    refine Nat.or_lt_two_pow (n := 11) (pso_lt k w A s0 l0 G m p s) ?_
    split
    · exact mk_lt _ _ _ _ _ _ _ _
    · decide
theorem pso_tb (k : Kt) (w : Lw) (A : Ap) (s0 l0 : Nat) (G : Nat → Nat → Bool) (m p x : Nat) : ∀ n, (pso k w A s0 l0 G m p n).testBit x = anb (fun s => decide ((pc s : Int) - pc s0 = p + 1) && (mk k w A s0 l0 G m s).testBit x) n
  | 0 => Nat.zero_testBit x
  | s + 1 => by
    show (pso k w A s0 l0 G m p s ||| _).testBit x = (anb _ s || _)
    rw [Nat.testBit_or, pso_tb k w A s0 l0 G m p x s]
    by_cases hc : (pc s : Int) - pc s0 = p + 1
    · rw [if_pos hc]
      simp [hc]
    · rw [if_neg hc, Nat.zero_testBit]
      simp [hc]
theorem c_X5_possibleAt (d : Nat) {μ : jM} {k : Kt} {w : Lw} {A : Ap} {s0 l0 : Nat} (h : SP μ k w A s0 l0) {G : Nat → Nat → Bool} {m : Nat} (hmk : ∀ s : Nat, s < 2 ^ kn k → μ 44 s = (mk k w A s0 l0 G m s : Int)) (p : Nat) (hp : p < 100) : CL (d + 3) 90 [jR 36, jR 29, jI p] μ = rI (pso k w A s0 l0 G m p (2 ^ kn k) : Int) μ := by
  obtain ⟨hk, h10, h0, hN⟩ := SP_k h
  rw [e_X5_possibleAt]
  refine (lp_0 (fun i : Nat => EV (d + 2) T_X5_possibleAt 1 [some (jR 36), some (jR 29), some (jI p), some (jI (pso k w A s0 l0 G m p i : Nat)), some (jI i)] [] μ) (2 ^ kn k) (fun i hi => ?_)).trans ?_
  · have hl := pso_lt k w A s0 l0 G m p i
    have hm := mk_lt k w A s0 l0 G m i
    rw [e_X5_possibleAt_1, c_sets _ h, bI_r, if_pos (by omega), if_pos (by omega), c_more _ h i hi, bI_r, w_s p (by omega), gd_t (by omega), hmk i hi, or_nn _ _ (by omega) (by omega), w_s i (by omega)]
    show _ = EV (d + 2) T_X5_possibleAt 1 [some (jR 36), some (jR 29), some (jI p), some (jI ((pso k w A s0 l0 G m p i ||| (if (pc i : Int) - pc s0 = p + 1 then mk k w A s0 l0 G m i else 0) : Nat))), some (jI (i + 1 : Nat))] [] μ
    by_cases hc : (pc i : Int) - pc s0 = p + 1
    · rw [if_pos (by omega), if_pos hc]
    · rw [if_neg (by omega), if_neg hc]
      have e := or_nn (pso k w A s0 l0 G m p i) 0 (by omega) (by decide)
      rw [show (0 : Int) = ((0 : Nat) : Int) from rfl, e]
  · rw [e_X5_possibleAt_1, c_sets _ h, bI_r, if_neg (by omega)]
