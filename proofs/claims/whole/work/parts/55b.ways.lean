/-! ## the class counts rows -/
theorem c_X3_value (d : Nat) (μ : jM) (s l : Nat) (hs : s < 1024) (hl : l ≤ 10) : CL (d + 1) 44 [jR 47, jI s, jI l] μ = rI (μ 48 ((11 * s + l : Nat) : Int)) μ := by
  have e : w32 (w32 ((s : Int) * 11) + (l : Int)) = ((11 * s + l : Nat) : Int) := by
    rw [w_id (x := (s : Int) * 11) (by omega) (by omega), w_id (by omega) (by omega)]
    omega
  rw [e_X3_value, e, if_neg (by omega), if_pos (by omega), gd_t (by omega)]
theorem c_X3_setValue (d : Nat) (μ : jM) (s l : Nat) (hs : s < 1024) (hl : l ≤ 10) (v : Int) : CL (d + 1) 45 [jR 47, jI s, jI l, jI v] μ = rV (jup μ 48 ((11 * s + l : Nat) : Int) v) := by
  have e : w32 (w32 ((s : Int) * 11) + (l : Int)) = ((11 * s + l : Nat) : Int) := by
    rw [w_id (x := (s : Int) * 11) (by omega) (by omega), w_id (by omega) (by omega)]
    omega
  rw [e_X3_setValue, e, if_neg (by omega), if_pos (by omega), gd_t (by omega)]
theorem c_X3_countWith (d : Nat) (μ : jM) (s b : Nat) (hs : s < 1024) (hb : b < 2048) (f : Nat → Int) (hf : ∀ l, l < 11 → b.testBit l = true → μ 48 ((11 * s + l : Nat) : Int) = f l) (hf2 : ∀ l, 0 ≤ f l ∧ f l ≤ 362880) : CL (d + 2) 48 [jR 47, jI s, jI b] μ = rI (sm (fun l => if b.testBit l then f l else 0) 11) μ := by
  let g : Nat → Int := fun l => if b.testBit l then f l else 0
  have hg : ∀ l, -362880 ≤ g l ∧ g l ≤ 362880 := fun l => by
    have := hf2 l
    show -362880 ≤ (if b.testBit l then f l else 0) ∧ (if b.testBit l then f l else 0) ≤ 362880
    split <;> omega
  rw [e_X3_countWith]
  refine (lp_0 (fun i : Nat => EV (d + 1) T_X3_countWith 1 [some (jR 47), some (jI s), some (jI b), some (jI (sm g i)), some (jI i)] [] μ) 11 (fun i hi => ?_)).trans ?_
  · have hbd := sm_b (f := g) (B := 362880) i (fun j _ => hg j)
    have hgi := hg i
    have e0 : sm g (i + 1) = sm g i + g i := rfl
    have e1 : w32 (sm g i + g i) = sm g (i + 1) := by rw [e0, w_id (by omega) (by omega)]
    have e2 : (i : Int) * 362880 ≤ 11 * 362880 := by omega
    rw [e_X3_countWith_1, if_pos (by omega), tb_1 b i (by omega) (by omega), w_s i (by omega), ← e1]
    show _ = EV (d + 1) T_X3_countWith 1 [some (jR 47), some (jI s), some (jI b), some (jI (w32 (sm g i + (if b.testBit i then f i else 0)))), some (jI (i + 1 : Nat))] [] μ
    cases hbt : b.testBit i with
    | false => rfl
    | true =>
      rw [if_pos rfl, if_pos rfl, if_pos rfl, c_X3_value _ μ s i hs (by omega), bI_r, hf i hi hbt]
  · rw [e_X3_countWith_1, if_neg (by decide)]
theorem sm_nwr {k : Kt} {w : Lw} {A : Ap} {s0 l0 s : Nat} : sm (fun l => if (re k w A s0 l0 s).testBit l then nwr k w A s0 l0 s l else 0) 11 = sm (fun l => nwr k w A s0 l0 s l) 11 := sm_cg 11 (fun l hl => by
  rw [re_tb hl]
  cases hr : rr k w A s0 l0 s l with
  | true => rfl
  | false =>
    rw [nwr_no hr]
    rfl)
/-- all rows of so many -/
def NW (k : Kt) (w : Lw) (A : Ap) (s0 l0 n N : Nat) : Int := sm (fun a => if pc a = pc s0 + n then sm (fun l => nwr k w A s0 l0 a l) 11 else 0) N
theorem snw_b {k : Kt} (hk : Kok k) {w : Lw} {A : Ap} {s0 l0 : Nat} (h0 : Sok k s0 l0) (a : Nat) : 0 ≤ sm (fun l => nwr k w A s0 l0 a l) 11 ∧ sm (fun l => nwr k w A s0 l0 a l) 11 ≤ 3991680 := by
  have h1 := sm_ge (f := fun l => nwr k w A s0 l0 a l) (n := 11) (fun i _ => (nwr_b hk h0 a i).1)
  have h2 := (sm_b (f := fun l => nwr k w A s0 l0 a l) (B := 362880) 11 (fun i _ => by have := nwr_b hk h0 (w := w) (A := A) a i; exact ⟨by omega, this.2⟩)).2
  exact ⟨h1, by omega⟩
theorem NW_b {k : Kt} (hk : Kok k) {w : Lw} {A : Ap} {s0 l0 : Nat} (h0 : Sok k s0 l0) (n : Nat) (N : Nat) (hN : N ≤ 1024) : -5000000000 ≤ NW k w A s0 l0 n N ∧ NW k w A s0 l0 n N ≤ 5000000000 := by
  have h2 := sm_b (f := fun a => if pc a = pc s0 + n then sm (fun l => nwr k w A s0 l0 a l) 11 else 0) (B := 3991680) N (fun i _ => by
    have := snw_b hk h0 (w := w) (A := A) i
    show -3991680 ≤ (if _ then _ else (0 : Int)) ∧ (if _ then _ else (0 : Int)) ≤ 3991680
    split <;> omega)
  unfold NW
  omega
theorem opn_out {k : Kt} {w : Lw} {A : Ap} {s0 s x : Nat} (h : (opn k w A s0 s).testBit x = true) : x < kn k ∧ s.testBit x = false := by
  unfold opn at h
  split at h
  · rw [Nat.zero_testBit] at h
    cases h
  · rw [bm_tb, Bool.and_eq_true, decide_eq_true_eq, Bool.and_eq_true, Bool.and_eq_true, Bool.and_eq_true] at h
    refine ⟨h.1, ?_⟩
    have := h.2.1.1.2
    simpa using this
theorem c_X3_countRows (d : Nat) {μ : jM} {k : Kt} {w : Lw} {A : Ap} {s0 l0 : Nat} (h : SP μ k w A s0 l0) (n : Nat) (hn : n ≤ 10) : ∃ μ', CL (d + 5) 46 [jR 47, jR 29, jI n] μ = rL (NW k w A s0 l0 n (2 ^ kn k)) μ' ∧ (∀ q, q ≠ 48 → μ' q = μ q) := by
  obtain ⟨hk, h10, h0, hN⟩ := SP_k h
  have hS0 := h.2.2.1
  have hl0 := Sok_10 hk hS0
  let T : jM → Nat → Nat → Int := fun μ1 s l => μ1 48 ((11 * s + l : Nat) : Int)
  -- what is known when a set's turn comes; within it
  let J : Nat → Nat → jM → Prop := fun a x μ1 => (∀ q, q ≠ 48 → μ1 q = μ q) ∧ ∀ s l, rr k w A s0 l0 s l = true → pc s ≤ pc s0 + n → (s = s0 ∨ nd s (2 ^ l) < a ∨ nd s (2 ^ l) = a ∧ l < x) → T μ1 s l = nwr k w A s0 l0 s l
  have pics : ∀ μ1, (∀ q, q ≠ 48 → μ1 q = μ q) → SP μ1 k w A s0 l0 := fun μ1 f => SP_cg h (fun q _ _ => f q (by omega))
  have own : ∀ a μ1, J a 0 μ1 → pc a ≤ pc s0 + n → ∀ x μ2, J a x μ2 → ∀ l, rr k w A s0 l0 a l = true → T μ2 a l = nwr k w A s0 l0 a l := fun a μ1 hJ hp x μ2 hJ2 l hr => by
    refine hJ2.2 a l hr hp ?_
    rcases (rr_in hk hS0 hr).1.2 with z | z
    · refine Or.inl ?_
      have := rr_ge hr
      omega
    · exact Or.inr (Or.inl (nd_lt z.2))
  have on : ∀ a, a < 2 ^ kn k → s0 ≤ a → re k w A s0 l0 a ≠ 0 → pc a < pc s0 + n → ∀ μ1, J a 0 μ1 → ∃ μ2, CL (d + 4) 47 [jR 47, jR 29, jI a] μ1 = rV μ2 ∧ J (a + 1) 0 μ2 := by
    intro a ha hsa hre hpa μ1 hJ
    have hop := opn_lt hk w A s0 a
    have hrl := re_lt k w A s0 l0 a
    obtain ⟨μ2, e2, j2⟩ := lp_i (fun (x : Nat) (μ1 : jM) => EV (d + 3) T_X3_countOn 1 [some (jR 47), some (jR 29), some (jI a), some (jI (opn k w A s0 a : Nat)), some (jI x)] [] μ1) (fun x μ1 => J a x μ1) (kn k) (fun x μ2 hx hJ2 => by
      have s2 := pics μ2 hJ2.1
      have hnr := nra_lt hk w x
      have h2x := p2_le (show x ≤ 10 by omega)
      show ∃ s', EV (d + 3) T_X3_countOn 1 _ [] μ2 = _ ∧ _
      rw [e_X3_countOn_1, c_dishes _ s2, bI_r, if_pos (by omega), tb_1 _ x (by omega) (by omega), w_s x (by omega)]
      cases hox : (opn k w A s0 a).testBit x with
      | false =>
        refine ⟨μ2, if_neg (by decide), hJ2.1, fun s l hr hp hc => ?_⟩
        by_cases h9 : s ≠ s0 ∧ nd s (2 ^ l) = a ∧ l = x
        · -- such a row isn't there
          obtain ⟨h91, h92, rfl⟩ := h9
          have hst := (rr_in hk hS0 hr).1
          rcases hst.2 with z | z
          · omega
          · have hab : a.testBit l = false := by
              rw [← h92, nd_tb, Nat.testBit_two_pow]
              simp
            have e9 : a ||| 2 ^ l = s := by rw [← h92, nd_or z.2]
            have := re_nr (A := A) (w := w) hk hS0 ha hx hab (by rw [e9]; exact h91)
            rw [hox, Bool.false_and, e9, hr] at this
            cases this
        · refine hJ2.2 s l hr hp ?_
          omega
      | true =>
        obtain ⟨-, hab⟩ := opn_out hox
        have hor := or_lt (k := k) ha hx
        have hne : a ||| 2 ^ x ≠ s0 := fun z => by
          have := or_gt hab
          omega
        have hal : re k w A s0 l0 a &&& nra k w x < 2048 := Nat.lt_of_le_of_lt Nat.and_le_left hrl
        rw [if_pos rfl, if_pos rfl, c_ends _ s2 a ha, bI_r, c_near _ s2 x (Or.inr hx), bI_r, and_nn _ _ (by omega) (by omega), c_X3_countWith _ μ2 a _ (by omega) hal (fun l => nwr k w A s0 l0 a l) (fun l hl hb => by
          rw [Nat.testBit_and, re_tb hl, Bool.and_eq_true] at hb
          exact own a μ1 hJ (by omega) x μ2 hJ2 l hb.1) (fun l => nwr_b hk hS0 a l), bI_r, shl_1 _ (by omega), or_nn a _ (by omega) (by omega), c_X3_setValue _ μ2 (a ||| 2 ^ x) x (by omega) (by omega), bV_r]
        refine ⟨_, rfl, fun q hq => (jup_ne hq).trans (hJ2.1 q hq), fun s l hr hp hc => ?_⟩
        have hl := (rr_st hk hS0 hr).2.1
        show jup μ2 48 _ _ 48 _ = _
        rw [tab_up (by omega) hl]
        by_cases h9 : s = a ||| 2 ^ x ∧ l = x
        · obtain ⟨rfl, rfl⟩ := h9
          rw [if_pos ⟨rfl, rfl⟩, nwr_s hk hS0 ha hx hab hne]
          refine sm_cg 11 (fun l' hl' => ?_)
          rw [Nat.testBit_and, re_tb hl']
          cases hr' : rr k w A s0 l0 a l' with
          | false =>
            rw [nwr_no hr']
            simp
          | true =>
            have hi := rr_in hk hS0 hr'
            have e := opn_stp (A := A) (w := w) hk hi.1.1 (Sok_l hi.1) hi.2 hx
            rw [hox, Bool.true_and] at e
            have e2 : nra k w l = nr k w l := if_neg (by omega)
            rw [Bool.true_and, e2, e]
            rfl
        · rw [if_neg h9]
          refine hJ2.2 s l hr hp ?_
          rcases hc with z | z | ⟨z1, z2⟩
          · exact Or.inl z
          · exact Or.inr (Or.inl z)
          · refine Or.inr (Or.inr ⟨z1, ?_⟩)
            by_cases h8 : l = x
            · refine absurd ⟨?_, h8⟩ h9
              rcases (rr_in hk hS0 hr).1.2 with y | y
              · omega
              · rw [← z1, ← h8, nd_or y.2]
            · omega) μ1 hJ
    refine ⟨μ2, ?_, j2.1, fun s l hr hp hc => j2.2 s l hr hp ?_⟩
    · have s1 := pics μ1 hJ.1
      rw [e_X3_countOn, c_open _ s1 a ha, bI_r]
      refine Eq.trans e2 ?_
      show EV (d + 3) T_X3_countOn 1 _ [] μ2 = _
      rw [e_X3_countOn_1, c_dishes _ (pics μ2 j2.1), bI_r, if_neg (by omega)]
    · have hst := (rr_in hk hS0 hr).1
      rcases hst.2 with z | z
      · refine Or.inl ?_
        have := rr_ge hr
        omega
      · omega
  let f : Nat → Int × jM → Option jO := fun j q => EV (d + 4) T_X3_countRows 1 [some (jR 47), some (jR 29), some (jI n), some (jL q.1), none, some (jI (s0 + j : Nat))] [] q.2
  have s1 : SP (jup μ 48 ((11 * s0 + l0 : Nat) : Int) 1) k w A s0 l0 := SP_u h 48 (by omega) _ _
  obtain ⟨⟨v, μ1⟩, e1, i1, i2⟩ := lp_i f (fun j q => q.1 = NW k w A s0 l0 n (s0 + j) ∧ J (s0 + j) 0 q.2) (2 ^ kn k - s0) (fun j q hj hI => by
    obtain ⟨v, μ1⟩ := q
    obtain ⟨hv, hJ⟩ := hI
    have hv : v = NW k w A s0 l0 n (s0 + j) := hv
    have hJ : J (s0 + j) 0 μ1 := hJ
    have ha : s0 + j < 2 ^ kn k := by omega
    have s1 := pics μ1 hJ.1
    have hrl := re_lt k w A s0 l0 (s0 + j)
    have estep : NW k w A s0 l0 n (s0 + (j + 1)) = NW k w A s0 l0 n (s0 + j) + (if pc (s0 + j) = pc s0 + n then sm (fun l => nwr k w A s0 l0 (s0 + j) l) 11 else 0) := rfl
    have hnb := NW_b hk hS0 (w := w) (A := A) n (s0 + j) (by omega)
    have hsb := snw_b hk hS0 (w := w) (A := A) (s0 + j)
    -- with nothing to come
    have skip : (re k w A s0 l0 (s0 + j) = 0 ∨ pc s0 + n ≤ pc (s0 + j)) → J (s0 + j + 1) 0 μ1 := fun hz => ⟨hJ.1, fun s l hr hp hc => hJ.2 s l hr hp (by
      by_cases h9 : s ≠ s0 ∧ nd s (2 ^ l) = s0 + j
      · obtain ⟨h91, h92⟩ := h9
        have hst := (rr_in hk hS0 hr).1
        rcases hst.2 with z | z
        · exfalso
          have := rr_ge hr
          omega
        · exfalso
          have hab : (s0 + j).testBit l = false := by
            rw [← h92, nd_tb, Nat.testBit_two_pow]
            simp
          have e9 : (s0 + j) ||| 2 ^ l = s := by rw [← h92, nd_or z.2]
          rcases hz with hz | hz
          · have := re_nr (A := A) (w := w) hk hS0 ha z.1 hab (by rw [e9]; exact h91)
            rw [hz, Nat.zero_and, e9, hr] at this
            simp at this
          · have := pc_or1 (by omega) ha z.1 hab
            rw [e9] at this
            omega
      · omega)⟩
    show ∃ s', EV (d + 4) T_X3_countRows 1 [some (jR 47), some (jR 29), some (jI n), some (jL v), none, some (jI (s0 + j : Nat))] [] μ1 = _ ∧ _
    rw [e_X3_countRows_1, c_sets _ s1, bI_r, if_pos (by omega), c_ends _ s1 _ ha, bI_r, w_s _ (by omega)]
    by_cases hz : re k w A s0 l0 (s0 + j) = 0
    · rw [if_pos (by omega)]
      refine ⟨(v, μ1), rfl, ?_, skip (Or.inl hz)⟩
      show v = NW k w A s0 l0 n (s0 + (j + 1))
      have : sm (fun l => nwr k w A s0 l0 (s0 + j) l) 11 = 0 := sm_0 (fun l hl => nwr_no (by rw [← re_tb hl, hz, Nat.zero_testBit]))
      rw [estep, this, hv]
      split <;> omega
    · rw [if_neg (by omega), c_more _ s1 _ ha, bI_r]
      have hge : pc s0 ≤ pc (s0 + j) := by
        cases hx : anb (fun l => rr k w A s0 l0 (s0 + j) l) 11 with
        | true =>
          obtain ⟨l, -, hl⟩ := anb_iff.mp hx
          exact rr_pc hk hS0 hl
        | false => exact absurd (bm_no 11 (fun i hi => anb_f hx hi)) hz
      by_cases h1 : (n : Int) < (pc (s0 + j) : Int) - pc s0
      · rw [if_pos h1]
        refine ⟨(v, μ1), rfl, ?_, skip (Or.inr (by omega))⟩
        show v = NW k w A s0 l0 n (s0 + (j + 1))
        rw [estep, if_neg (by omega), hv]
        omega
      · rw [if_neg h1, c_more _ s1 _ ha, bI_r]
        by_cases h2 : (pc (s0 + j) : Int) - pc s0 = n
        · rw [if_pos h2, c_ends _ s1 _ ha, bI_r, c_X3_countWith _ μ1 (s0 + j) _ (by omega) hrl (fun l => nwr k w A s0 l0 (s0 + j) l) (fun l hl hb => by
            rw [re_tb hl] at hb
            exact own (s0 + j) μ1 hJ (by omega) 0 μ1 hJ l hb) (fun l => nwr_b hk hS0 _ l), bI_r, sm_nwr]
          refine ⟨(NW k w A s0 l0 n (s0 + (j + 1)), μ1), ?_, rfl, skip (Or.inr (by omega))⟩
          rw [w64_id (by omega) (by omega), hv, estep, if_pos (by omega)]
          rfl
        · rw [if_neg h2]
          obtain ⟨μ2, e2, j2⟩ := on (s0 + j) ha (by omega) hz (by omega) μ1 hJ
          refine ⟨(v, μ2), by rw [e2, bV_r]; rfl, ?_, j2⟩
          show v = NW k w A s0 l0 n (s0 + (j + 1))
          rw [estep, if_neg (by omega), hv]
          omega) (0, jup μ 48 ((11 * s0 + l0 : Nat) : Int) 1) ⟨by
    show (0 : Int) = sm _ (s0 + 0)
    rw [sm_0 (fun a ha => ?_)]
    have : sm (fun l => nwr k w A s0 l0 a l) 11 = 0 := sm_0 (fun l hl => nwr_no (by
      cases hr : rr k w A s0 l0 a l with
      | false => rfl
      | true => have := rr_ge hr; omega))
    rw [this]
    split <;> rfl, fun q hq => jup_ne hq, fun s l hr hp hc => by
    have hl := (rr_st hk hS0 hr).2.1
    show jup μ 48 _ 1 48 _ = _
    rw [tab_up hl0 hl]
    have hs : s = s0 := by
      rcases hc with z | z | z
      · exact z
      · have hge : s0 ≤ nd s (2 ^ l) ∨ s = s0 := by
          by_cases h9 : s = s0
          · exact Or.inr h9
          · left
            unfold rr at hr
            cases hm : pc s - pc s0 with
            | zero =>
              rw [hm] at hr
              simp only [rc, Bool.and_eq_true, beq_iff_eq] at hr
              exact absurd hr.1 h9
            | succ m =>
              rw [hm, rc_s, Bool.and_eq_true] at hr
              obtain ⟨l', -, h8⟩ := anb_iff.mp hr.2
              rw [Bool.and_eq_true] at h8
              exact rc_ge _ _ _ h8.1
        omega
      · omega
    subst hs
    rw [rr_0] at hr
    have : l = l0 := by simpa using hr
    rw [this, if_pos ⟨rfl, rfl⟩, nwr_0, if_pos rfl]⟩
  have eN : s0 + (2 ^ kn k - s0) = 2 ^ kn k := by omega
  refine ⟨μ1, ?_, i2.1⟩
  rw [e_X3_countRows, c_from _ h, bI_r, c_start _ h, bI_r, c_X3_setValue _ μ s0 l0 (by omega) hl0, bV_r, c_from _ s1, bI_r]
  refine Eq.trans e1 ?_
  show EV (d + 4) T_X3_countRows 1 [some (jR 47), some (jR 29), some (jI n), some (jL v), none, some (jI (s0 + (2 ^ kn k - s0) : Nat))] [] μ1 = _
  have hv : v = NW k w A s0 l0 n (s0 + (2 ^ kn k - s0)) := i1
  rw [eN] at hv ⊢
  rw [e_X3_countRows_1, c_sets _ (pics μ1 i2.1), bI_r, if_neg (by omega), hv]
/-! ## sets of more than so many -/
def sab (k : Kt) (w : Lw) (A : Ap) (s0 l0 : Nat) (n : Int) : Nat → Nat
  | 0 => 0
  | s + 1 => sab k w A s0 l0 n s ||| (if re k w A s0 l0 s ≠ 0 ∧ n < (pc s : Nat) then s else 0)
theorem sab_lt (k : Kt) (w : Lw) (A : Ap) (s0 l0 : Nat) (n : Int) : ∀ N, N ≤ 1024 → sab k w A s0 l0 n N < 1024
  | 0, _ => by show (0 : Nat) < 1024; decide
  | s + 1, h => by
    refine Nat.or_lt_two_pow (n := 10) (sab_lt k w A s0 l0 n s (by omega)) ?_
    split <;> omega
theorem c_X8_inSetsAbove (d : Nat) {μ : jM} {k : Kt} {w : Lw} {A : Ap} {s0 l0 : Nat} (h : SP μ k w A s0 l0) (n : Int) : CL (d + 2) 122 [jR 29, jI n] μ = rI (sab k w A s0 l0 n (2 ^ kn k) : Nat) μ := by
  obtain ⟨hk, h10, h0, hN⟩ := SP_k h
  rw [e_X8_inSetsAbove]
  refine (lp_0 (fun i : Nat => EV (d + 1) T_X8_inSetsAbove 1 [some (jR 29), some (jI n), some (jI (sab k w A s0 l0 n i : Nat)), some (jI i)] [] μ) (2 ^ kn k) (fun i hi => ?_)).trans ?_
  · have hb := sab_lt k w A s0 l0 n i (by omega)
    have e0 := or_nn (sab k w A s0 l0 n i) 0 (by omega) (by decide)
    rw [e_X8_inSetsAbove_1, c_sets _ h, bI_r, if_pos (by omega), gd_t (by omega), h.2.2.2 i hi, w_s i (by omega)]
    show _ = EV (d + 1) T_X8_inSetsAbove 1 [some (jR 29), some (jI n), some (jI ((sab k w A s0 l0 n i ||| (if re k w A s0 l0 i ≠ 0 ∧ n < (pc i : Nat) then i else 0) : Nat))), some (jI (i + 1 : Nat))] [] μ
    by_cases hz : re k w A s0 l0 i = 0
    · rw [if_pos (by omega), if_neg (fun z => z.1 hz), ← e0]
      rfl
    · rw [if_neg (by omega), c_bc _ _ _ (by omega), bI_r]
      by_cases h1 : n < (pc i : Nat)
      · rw [if_pos h1, if_pos ⟨hz, h1⟩, or_nn _ _ (by omega) (by omega)]
      · rw [if_neg h1, if_neg (fun z => h1 z.2), ← e0]
        rfl
  · rw [e_X8_inSetsAbove_1, c_sets _ h, bI_r, if_neg (by omega)]
theorem sab_tb (k : Kt) (w : Lw) (A : Ap) (s0 l0 : Nat) (n : Int) (x : Nat) : ∀ N, (sab k w A s0 l0 n N).testBit x = anb (fun s => (re k w A s0 l0 s != 0 && decide (n < (pc s : Nat))) && s.testBit x) N
  | 0 => Nat.zero_testBit x
  | s + 1 => by
    show (sab k w A s0 l0 n s ||| _).testBit x = (anb _ s || ((re k w A s0 l0 s != 0 && decide (n < (pc s : Nat))) && s.testBit x))
    rw [Nat.testBit_or, sab_tb k w A s0 l0 n x s]
    by_cases hc : re k w A s0 l0 s ≠ 0 ∧ n < (pc s : Nat)
    · rw [if_pos hc]
      have : (re k w A s0 l0 s != 0) = true := by simpa using hc.1
      rw [this, decide_eq_true hc.2]
      simp
    · rw [if_neg hc, Nat.zero_testBit]
      have : (re k w A s0 l0 s != 0 && decide (n < (pc s : Nat))) = false := by
        by_cases h1 : re k w A s0 l0 s = 0
        · rw [h1]
          rfl
        · have : ¬ n < (pc s : Nat) := fun z => hc ⟨h1, z⟩
          rw [decide_eq_false this, Bool.and_false]
      rw [this, Bool.false_and]
