/-! ## the reference: the most DISHES -/
/-- sets, and in each its last ones: a loop in a loop -/
theorem lp_tab {σ β : Type} (f2 : Nat → σ → β) (f3 : Nat → Nat → σ → β) (N n : Nat) (I : Nat → Nat → σ → Prop) (h1 : ∀ a s, a < N → I a 0 s → f2 a s = f3 a 0 s) (h3 : ∀ a j s, a < N → j < n → I a j s → ∃ s', f3 a j s = f3 a (j + 1) s' ∧ I a (j + 1) s') (h4 : ∀ a s, a < N → I a n s → f3 a n s = f2 (a + 1) s ∧ I (a + 1) 0 s) : ∀ s, I 0 0 s → ∃ s', f2 0 s = f2 N s' ∧ I N 0 s' := by
  refine lp_i f2 (fun a s => I a 0 s) N (fun a s ha hs => ?_)
  obtain ⟨s', e1, i1⟩ := lp_i (f3 a) (I a) n (fun j s hj hs => h3 a j s ha hj hs) s hs
  obtain ⟨e2, i2⟩ := h4 a s' ha i1
  exact ⟨s', (h1 a s ha hs).trans (e1.trans e2), i2⟩
/-- what is done: sets below a, of a the first j last ones -/
def dn (a j s l : Nat) : Prop := s < a ∨ s = a ∧ ∃ j', j' < j ∧ l = lx j'
theorem dn_end {k : Kt} {a s l : Nat} (hs : Stt k s l) : dn a (kn k + 1) s l ↔ dn (a + 1) 0 s l := by
  unfold dn
  constructor
  · rintro (h | ⟨h, -⟩)
    · exact Or.inl (by omega)
    · exact Or.inl (by omega)
  · rintro (h | ⟨-, j', h, -⟩)
    · by_cases e : s = a
      · refine Or.inr ⟨e, ?_⟩
        rcases hs.2.1 with z | z
        · exact ⟨0, by omega, by rw [z]; rfl⟩
        · exact ⟨l + 1, by omega, (lx_s l).symm⟩
      · exact Or.inl (by omega)
    · omega
theorem dn_s {a j s l : Nat} : dn a (j + 1) s l ↔ dn a j s l ∨ s = a ∧ l = lx j := by
  unfold dn
  constructor
  · rintro (h | ⟨h, j', h2, h3⟩)
    · exact Or.inl (Or.inl h)
    · by_cases e : j' = j
      · rw [e] at h3
        exact Or.inr ⟨h, h3⟩
      · exact Or.inl (Or.inr ⟨h, j', by omega, h3⟩)
  · rintro ((h | ⟨h, j', h2, h3⟩) | ⟨h, h2⟩)
    · exact Or.inl h
    · exact Or.inr ⟨h, j', by omega, h3⟩
    · exact Or.inr ⟨h, j, by omega, h2⟩
theorem lx_inj {i j : Nat} (hi : i ≤ 10) (hj : j ≤ 10) (h : lx i = lx j) : i = j := by
  unfold lx at h
  by_cases h1 : i = 0
  · rw [if_pos h1] at h
    by_cases h2 : j = 0
    · omega
    · rw [if_neg h2] at h
      omega
  · rw [if_neg h1] at h
    by_cases h2 : j = 0
    · rw [if_pos h2] at h
      omega
    · rw [if_neg h2] at h
      omega
theorem dn_no {a j : Nat} (hj : j ≤ 10) : ¬ dn a j a (lx j) := by
  rintro (h | ⟨-, j', h2, h3⟩)
  · omega
  · have := lx_inj hj (by omega) h3
    omega
theorem dn_00 {s l : Nat} : ¬ dn 0 0 s l := by
  rintro (h | ⟨-, j', h2, -⟩)
  · omega
  · omega
theorem dn_N {k : Kt} {s l : Nat} (hs : Stt k s l) : dn (2 ^ kn k) 0 s l := Or.inl hs.1
theorem lx_kn {k : Kt} {j : Nat} (hj : j < kn k + 1) : lx j = 10 ∨ lx j < kn k := by
  unfold lx
  split <;> omega
/-- a table of yes and no being written -/
def TE (μ : jM) (p : Nat) (k : Kt) (E : Nat → Nat → Bool) (a j : Nat) : Prop := ∀ s l, Stt k s l → (dn a j s l → μ p ((11 * s + l : Nat) : Int) = if E s l then 1 else 0) ∧ (¬ dn a j s l → μ p ((11 * s + l : Nat) : Int) = 0)
theorem TE_0 (μ : jM) (p : Nat) (k : Kt) (hk : Kok k) (E : Nat → Nat → Bool) : TE (jpre μ p (fun _ => 0) 11264) p k E 0 0 := fun s l hs => ⟨fun h => absurd h dn_00, fun _ => by
  have h1 := hs.1
  have h2 := p2_le hk.1
  have h3 := Sok_10 hk (ist_S hk hs)
  exact jpre_lo (by omega)⟩
theorem TE_end {μ : jM} {p : Nat} {k : Kt} {E : Nat → Nat → Bool} {a : Nat} (h : TE μ p k E a (kn k + 1)) : TE μ p k E (a + 1) 0 := fun s l hs => ⟨fun hd => (h s l hs).1 ((dn_end hs).mpr hd), fun hd => (h s l hs).2 (fun z => hd ((dn_end hs).mp z))⟩
theorem TE_N {μ : jM} {p : Nat} {k : Kt} {E : Nat → Nat → Bool} (h : TE μ p k E (2 ^ kn k) 0) : ∀ s l, Stt k s l → μ p ((11 * s + l : Nat) : Int) = if E s l then 1 else 0 := fun s l hs => (h s l hs).1 (dn_N hs)
theorem TE_stay {μ : jM} {p : Nat} {k : Kt} {E : Nat → Nat → Bool} {a j : Nat} (hj : j ≤ 10) (h : TE μ p k E a j) (hz : Stt k a (lx j) → E a (lx j) = false) : TE μ p k E a (j + 1) := fun s l hs => ⟨fun hd => by
  rcases dn_s.mp hd with z | ⟨rfl, rfl⟩
  · exact (h s l hs).1 z
  · rw [hz hs]
    exact (h s (lx j) hs).2 (dn_no hj), fun hd => (h s l hs).2 (fun z => hd (dn_s.mpr (Or.inl z)))⟩
theorem TE_up {μ : jM} {p : Nat} {k : Kt} (hk : Kok k) {E : Nat → Nat → Bool} {a j : Nat} (hj : j ≤ 10) (h : TE μ p k E a j) {v : Int} (hv : v = if E a (lx j) then 1 else 0) : TE (jup μ p ((11 * a + lx j : Nat) : Int) v) p k E a (j + 1) := fun s l hs => by
  have hl := Sok_10 hk (ist_S hk hs)
  rw [tab_up (lx_le hj (by omega)) hl]
  by_cases hc : s = a ∧ l = lx j
  · rw [if_pos hc]
    refine ⟨fun _ => by rw [hv, hc.1, hc.2], fun hd => absurd (dn_s.mpr (Or.inr hc)) hd⟩
  · rw [if_neg hc]
    refine ⟨fun hd => ?_, fun hd => (h s l hs).2 (fun z => hd (dn_s.mpr (Or.inl z)))⟩
    rcases dn_s.mp hd with z | z
    · exact (h s l hs).1 z
    · exact absurd z hc
theorem TE_ne {μ : jM} {p q : Nat} {k : Kt} {E : Nat → Nat → Bool} {a j : Nat} (h : TE μ p k E a j) {μ' : jM} (e : μ' p = μ p) : TE μ' p k E a j := fun s l hs => by
  rw [e]
  exact h s l hs
theorem bset_pc : ∀ {b : List Nat}, Bok 10 b → pc (bset b) = b.length
  | [], _ => rfl
  | x :: b, h => by
    have hx := h.2 x List.mem_cons_self
    have hn := List.nodup_cons.mp h.1
    have hb : Bok 10 b := ⟨hn.2, fun y hy => h.2 y (List.mem_cons_of_mem _ hy)⟩
    have ih := bset_pc hb
    have hlt : bset b < 2 ^ 10 := bset_lt hb.2
    have hno : (bset b).testBit x = false := by
      rw [bset_tb]
      simpa using hn.1
    have e : bset (x :: b) = bset b ||| 2 ^ x := by
      show 2 ^ x ||| bset b = _
      exact Nat.or_comm _ _
    rw [e, pc_or1 (n := 10) (by decide) hlt hx hno, ih]
    rfl
/-- the frame of the reference's searches -/
def fRf (μ' μ : jM) : Prop := (∀ q, q < 69 ∨ (69 < q ∧ q < 81) ∨ q = 82 ∨ 93 < q → μ' q = μ q) ∧ ∀ j, j ≠ 19 → μ' 69 j = μ 69 j
theorem fRf_r (μ : jM) : fRf μ μ := ⟨fun _ _ => rfl, fun _ _ => rfl⟩
theorem fRf_t {μ1 μ2 μ3 : jM} (h1 : fRf μ2 μ1) (h2 : fRf μ3 μ2) : fRf μ3 μ1 := ⟨fun q hq => (h2.1 q hq).trans (h1.1 q hq), fun j hj => (h2.2 j hj).trans (h1.2 j hj)⟩
theorem fRf_q {μ' μ : jM} (p : Nat) (hp : p = 81 ∨ 83 ≤ p ∧ p ≤ 93) (h : ∀ q, q ≠ p → μ' q = μ q) : fRf μ' μ := ⟨fun q hq => h q (by omega), fun j _ => by rw [h 69 (by omega)]⟩
theorem fRf_u {μ : jM} {p : Nat} (hp : p = 81 ∨ 83 ≤ p ∧ p ≤ 93) (i v : Int) : fRf (jup μ p i v) μ := fRf_q p hp (fun q hq => jup_ne hq)
theorem fRf_KR {μ' μ : jM} {k : Kt} (f : fRf μ' μ) (h : KR μ k) : KR μ' k := KR_cg h (fun q _ _ => f.1 q (by omega)) (f.2 1 (by decide)) (f.2 6 (by decide))
theorem fRf_LR {μ' μ : jM} {w : Lw} (f : fRf μ' μ) (h : LR μ w) : LR μ' w := LR_cg h (f.1 70 (by omega)) (f.2 9 (by decide)) (f.2 10 (by decide)) (f.2 11 (by decide))
theorem fRf_SR {μ' μ : jM} {b : List Nat} (f : fRf μ' μ) (h : SR μ b) : SR μ' b := SR_cg h (f.1 77 (by omega)) (f.2 13 (by decide))
/-- the row is emptied -/
theorem RR_0 (μ : jM) : RR (jup μ 69 19 0) [] := ⟨by decide, jup_r _ _ _ _, by rw [jup_ne (by decide)]; exact LA_nil _⟩
theorem fRf_0 (μ : jM) : fRf (jup μ 69 19 0) μ := ⟨fun q hq => jup_ne (by omega), fun j hj => jup_m hj⟩
theorem c_X12_longestBy (d : Nat) {μ : jM} {k : Kt} {w : Lw} {b : List Nat} (hk : KR μ k) (hw : LR μ w) (hb : SR μ b) (hbk : Bok (kn k) b) (sb : Nat) (hsb : sb < 1024) : ∃ μ' m row, CL (d + 6) 268 [jR 69, jI sb] μ = rI ((m : Nat) : Int) μ' ∧ fRf μ' μ ∧ BestP k w (fun _ x => sb.testBit x) (bset b) (bla b) (rr k w (fun _ x => sb.testBit x) (bset b) (bla b)) (fun s => (pc s : Int) - pc (bset b)) (m : Nat) m row ∧ RR μ' (ri row) := by
  have hko := hk.1
  have h10 := hko.1
  have hN := p2_le h10
  have hS0 := Sok_b hbk
  have hs0 := hS0.1
  have hpcb := bset_pc hb.1
  have hbl := Bok_len hb.1
  let A : Ap := fun _ x => sb.testBit x
  let s0 := bset b
  let l0 := bla b
  obtain ⟨μ1, e1, f1, t1⟩ := c_X12_findRows d hk hw hS0 sb hsb
  have g1 : fRf μ1 μ := fRf_q 85 (by omega) f1
  have k1 := fRf_KR g1 hk
  have w1 := fRf_LR g1 hw
  have b1 := fRf_SR g1 hb
  have stb : ∀ a l, a < 2 ^ kn k → l < kn k → (a.testBit l = true ↔ Stt k a l) := fun a l ha hl => by
    unfold Stt ist
    rw [if_neg (by omega)]
    exact ⟨fun h => ⟨ha, Or.inr hl, h⟩, fun h => h.2.2⟩
  -- the most
  obtain ⟨M, e2, i2⟩ := lp_tab (fun (a : Nat) (M : Nat) => EV (d + 5) T_X12_longestBy 1 [some (jR 69), some (jI sb), some (jI s0), some (jI (lno l0)), some (jI M), some (jI a), none] [] μ1) (fun (a j : Nat) (M : Nat) => EV (d + 5) T_X12_longestBy 2 [some (jR 69), some (jI sb), some (jI s0), some (jI (lno l0)), some (jI M), some (jI a), some (jI j)] [] μ1) (2 ^ kn k) (kn k) (fun a j M => M ≤ 10 ∧ (∃ s l, rr k w A s0 l0 s l = true ∧ pc s = pc s0 + M) ∧ ∀ s l, rr k w A s0 l0 s l = true → s < a ∨ s = a ∧ l < j → pc s ≤ pc s0 + M) (fun a M ha hI => by
      show EV (d + 5) T_X12_longestBy 1 _ [] μ1 = _
      rw [e_X12_longestBy_1, c_X12_all _ k1, bI_r, if_neg (by omega)]
      rfl) (fun a j M ha hj hI => by
      show ∃ s', EV (d + 5) T_X12_longestBy 2 _ [] μ1 = _ ∧ _
      obtain ⟨hM, hex, hall⟩ := hI
      rw [e_X12_longestBy_2, k1.2.1, if_pos (by omega), c_X12_has _ _ a j (by omega) (by omega), bI_r, w_s j (by omega)]
      have stay : (rr k w A s0 l0 a j = true → pc a ≤ pc s0 + M) → ∀ s l, rr k w A s0 l0 s l = true → s < a ∨ s = a ∧ l < j + 1 → pc s ≤ pc s0 + M := fun hz s l hs hc => by
        by_cases h1 : s = a ∧ l = j
        · rw [h1.1, h1.2] at hs
          rw [h1.1]
          exact hz hs
        · exact hall s l hs (by omega)
      cases hbt : a.testBit j with
      | false =>
        refine ⟨M, if_pos rfl, hM, hex, stay (fun hr => ?_)⟩
        have := (rr_Stt hko hS0 hr)
        rw [← stb a j ha hj, hbt] at this
        cases this
      | true =>
        have hst := (stb a j ha hj).mp hbt
        rw [if_pos rfl, if_neg (by decide), d_place _ _ a j (by omega) (by omega), bI_r, gd_t (by omega), ite_jcmp, t1 a j hst]
        have hpca := pc_le (n := 10) (show a < 2 ^ 10 by omega) (by decide)
        cases hr : rr k w A s0 l0 a j with
        | false =>
          have := nwr_no hr
          refine ⟨M, ?_, hM, hex, stay (fun z => by rw [hr] at z; cases z)⟩
          rw [show nwr k w (fun _ x => sb.testBit x) (bset b) (bla b) a j = 0 from this]
          rfl
        | true =>
          have hp := hr
          rw [← nwr_rr, decide_eq_true_eq] at hp
          have hge := rr_pc hko hS0 hr
          rw [if_pos hp, c_bc _ _ _ (by omega), bI_r, b1.2.1, w_id (by omega) (by omega)]
          by_cases hm : pc a ≤ pc s0 + M
          · refine ⟨M, ?_, hM, hex, stay (fun _ => hm)⟩
            have : max ((M : Nat) : Int) ((pc a : Int) - b.length) = (M : Int) := by
              show max ((M : Nat) : Int) ((pc a : Int) - b.length) = (M : Int)
              have : pc s0 = b.length := hpcb
              omega
            rw [this]
          · refine ⟨pc a - pc s0, ?_, by omega, ⟨a, j, hr, by omega⟩, fun s l hs hc => ?_⟩
            · have : max ((M : Nat) : Int) ((pc a : Int) - b.length) = ((pc a - pc s0 : Nat) : Int) := by
                have : pc s0 = b.length := hpcb
                omega
              rw [this]
            · by_cases h1 : s = a ∧ l = j
              · rw [h1.1]
                omega
              · have := hall s l hs (by omega)
                omega) (fun a M ha hI => by
      refine ⟨?_, hI.1, hI.2.1, fun s l hs hc => ?_⟩
      · show EV (d + 5) T_X12_longestBy 2 _ [] μ1 = _
        rw [e_X12_longestBy_2, k1.2.1, if_neg (by omega), w_s a (by omega)]
      · by_cases h1 : l < kn k
        · exact hI.2.2 s l hs (by omega)
        · have hSk := (rr_in hko hS0 hs).1
          rcases hSk.2 with z | z
          · rw [z.2]
            show pcb 12 0 ≤ _
            rw [show pcb 12 0 = 0 from rfl]
            exact Nat.zero_le _
          · exact absurd z.1 h1) 0 ⟨by decide, ⟨s0, l0, by rw [rr_0]; simp, rfl⟩, fun s l hs hc => by omega⟩
  obtain ⟨hM10, ⟨sM, lM, hMr, hMp⟩, hMa⟩ := i2
  have hMa2 : ∀ s l, rr k w A s0 l0 s l = true → pc s ≤ pc s0 + M := fun s l hs => hMa s l hs (Or.inl (rr_st hko hS0 hs).1)
  let Em : Nat → Nat → Bool := fun s l => rr k w A s0 l0 s l && decide ((pc s : Int) - pc s0 = ((M : Nat) : Int))
  let μ2 : jM := jpre μ1 83 (fun _ => 0) 11264
  have en : ∀ d, CL (d + 1) 264 [jR 69] μ1 = rV μ2 := fun d => c_X12_noEnds d μ1
  have f2 : ∀ q, q ≠ 83 → μ2 q = μ1 q := fun q hq => jpre_ne hq
  have g2 : fRf μ2 μ1 := fRf_q 83 (by omega) f2
  -- the ends
  obtain ⟨μ3, e3, g3, t3, h85⟩ := lp_tab (fun (a : Nat) (μ3 : jM) => EV (d + 5) T_X12_longestBy 3 [some (jR 69), some (jI sb), some (jI s0), some (jI (lno l0)), some (jI M), some (jI a), none] [] μ3) (fun (a j : Nat) (μ3 : jM) => EV (d + 5) T_X12_longestBy 4 [some (jR 69), some (jI sb), some (jI s0), some (jI (lno l0)), some (jI M), some (jI a), some (jI ((j : Int) - 1))] [] μ3) (2 ^ kn k) (kn k + 1) (fun a j μ3 => fRf μ3 μ ∧ TE μ3 83 k Em a j ∧ μ3 85 = μ1 85) (fun a μ3 ha hI => by
      show EV (d + 5) T_X12_longestBy 3 _ [] μ3 = _
      rw [e_X12_longestBy_3, c_X12_all _ (fRf_KR hI.1 hk), bI_r, if_neg (by omega)]
      rfl) (fun a j μ3 ha hj hI => by
      obtain ⟨g3, t3, h85⟩ := hI
      have k3 := fRf_KR g3 hk
      have b3 := fRf_SR g3 hb
      have hjx := lx_le (show j ≤ kn k by omega) h10
      show ∃ s', EV (d + 5) T_X12_longestBy 4 _ [] μ3 = _ ∧ _
      rw [e_X12_longestBy_4, k3.2.1, if_pos (by omega), x_isState _ _ a j (by omega) (by omega), bI_r, x_inc _ (by omega)]
      cases hi : ist a (lx j) with
      | false =>
        exact ⟨μ3, if_pos rfl, g3, TE_stay (by omega) t3 (fun z => by rw [z.2.2] at hi; cases hi), h85⟩
      | true =>
        have hst : Stt k a (lx j) := ⟨ha, lx_kn hj, hi⟩
        rw [if_pos rfl, if_neg (by decide), x_place _ _ a j (by omega) (by omega), bI_r, gd_t (by omega), ite_jcmp, h85, t1 a _ hst]
        cases hr : rr k w A s0 l0 a (lx j) with
        | false =>
          have := nwr_no hr
          refine ⟨μ3, ?_, g3, TE_stay (by omega) t3 (fun _ => by show (rr k w A s0 l0 a (lx j) && _) = false; rw [hr, Bool.false_and]), h85⟩
          rw [show nwr k w (fun _ x => sb.testBit x) (bset b) (bla b) a (lx j) = 0 from this]
          rfl
        | true =>
          have hp := hr
          rw [← nwr_rr, decide_eq_true_eq] at hp
          have hpca := pc_le (n := 10) (show a < 2 ^ 10 by omega) (by decide)
          have hEa : Em a (lx j) = decide ((pc a : Int) - pc s0 = ((M : Nat) : Int)) := by
            show (rr k w A s0 l0 a (lx j) && _) = _
            rw [hr, Bool.true_and]
          have hps : pc s0 = b.length := hpcb
          rw [if_pos hp, x_place _ _ a j (by omega) (by omega), bI_r, c_bc _ _ _ (by omega), bI_r, b3.2.1, w_id (by omega) (by omega)]
          by_cases hm : (pc a : Int) - b.length = ((M : Nat) : Int)
          · rw [if_pos hm, gd_t (by omega), gd_t (by decide)]
            refine ⟨_, rfl, fRf_t g3 (fRf_u (by omega) _ _), TE_up hko (by omega) t3 (by rw [hEa, decide_eq_true (by omega)]; rfl), (jup_ne (by decide)).trans h85⟩
          · rw [if_neg hm, gd_t (by omega), gd_t (by decide)]
            refine ⟨_, rfl, fRf_t g3 (fRf_u (by omega) _ _), TE_up hko (by omega) t3 (by rw [hEa, decide_eq_false (by omega)]; rfl), (jup_ne (by decide)).trans h85⟩) (fun a μ3 ha hI => by
      refine ⟨?_, hI.1, TE_end hI.2.1, hI.2.2⟩
      show EV (d + 5) T_X12_longestBy 4 _ [] μ3 = _
      rw [e_X12_longestBy_4, (fRf_KR hI.1 hk).2.1, if_neg (by omega), w_s a (by omega)]) μ2 ⟨fRf_t g1 g2, TE_0 μ1 83 k hko Em, f2 85 (by decide)⟩
  have k3 := fRf_KR g3 hk
  have w3 := fRf_LR g3 hw
  have hEM : ∀ s l, Stt k s l → Em s l = true → pc s = pc s0 + M := fun s l _ he => by
    have := (Bool.and_eq_true_iff.mp he).2
    rw [decide_eq_true_eq] at this
    omega
  obtain ⟨μ4, e4, f4, t4⟩ := c_X12_findEnds d k3 w3 sb hsb s0 (TE_N t3)
  have g4 : fRf μ4 μ3 := fRf_q 84 (by omega) f4
  let μ5 : jM := jup μ4 69 19 0
  have g5 : fRf μ5 μ := fRf_t (fRf_t g3 g4) (fRf_0 μ4)
  have hGm : ∀ s l, Em s l = true → rr k w A s0 l0 s l = true ∧ pc s = pc s0 + M := fun s l he => by
    have := Bool.and_eq_true_iff.mp he
    rw [decide_eq_true_eq] at this
    exact ⟨this.1, by omega⟩
  have hcr : cr (SS k w A s0) Em M s0 l0 = true := by
    have hrc : rc k w A s0 l0 M sM lM = true := by
      have := hMr
      unfold rr at this
      rw [hMp, Nat.add_sub_cancel_left] at this
      exact this
    exact rc_cr hko hS0 (G := Em) M (r := 0) hrc (by
      show (rr k w A s0 l0 sM lM && _) = true
      rw [hMr, Bool.true_and, decide_eq_true_eq]
      omega)
  obtain ⟨μ6, e6, f6, g6, r6⟩ := c_X12_tellWay d (fRf_KR g5 hk) (fRf_LR g5 hw) sb hsb s0 (E := Em) (fun s l hs => by
      rw [show μ5 83 = μ3 83 from (jup_ne (by decide)).trans (f4 83 (by decide))]
      exact TE_N t3 s l hs) (fun s l hs => by
      rw [show μ5 84 = μ4 84 from jup_ne (by decide)]
      exact t4 s l hs) hEM M s0 l0 μ5 [] (fun _ _ _ => rfl) (fun _ _ => rfl) (S_ist hko hS0) rfl hcr (RR_0 μ4) (by simp; omega)
  refine ⟨μ6, M, _, ?_, fRf_t g5 ⟨fun q hq => f6 q (by omega) (by omega), g6⟩, ⟨⟨sM, lM, hMr, by show (pc sM : Int) - pc s0 = _; omega⟩, fun s l hs => ?_, fun s l hs he => ?_, rfl⟩, ?_⟩
  · rw [e_X12_longestBy, c_X12_servedSet _ hb, bI_r, c_X12_servedLast _ hb, bI_r, e1, bV_r]
    refine Eq.trans e2 ?_
    show EV (d + 5) T_X12_longestBy 1 _ [] μ1 = _
    rw [e_X12_longestBy_1, c_X12_all _ k1, bI_r, if_pos (by omega), en, bV_r]
    refine Eq.trans e3 ?_
    show EV (d + 5) T_X12_longestBy 3 _ [] μ3 = _
    rw [e_X12_longestBy_3, c_X12_all _ k3, bI_r, if_pos (by omega), e4, bV_r, e_X12_tellWay, e6, bV_r]
  · have := hMa2 s l hs
    show (pc s : Int) - pc s0 ≤ M
    omega
  · have he : (pc s : Int) - pc s0 = M := he
    show pc s = pc s0 + M
    omega
  · exact r6
