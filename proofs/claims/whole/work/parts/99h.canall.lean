/-! ## can all be one row: the reference -/
def ajf (w : Lw) (st he : Nat → Nat) (x y : Nat) : Bool := decide (lsh w ≤ pc (st x &&& st y)) && !(lhe w == 2 && (he x == he y))
def htf (he : Nat → Nat) (x : Nat) : Bool := he x == 1
def FX (μ : jM) (N : Nat) (st he : Nat → Nat) : Prop := ∀ x : Nat, x < N → μ 71 (x : Int) = (st x : Int) ∧ st x < 256 ∧ μ 73 (x : Int) = (he x : Int) ∧ he x ≤ 1
def stG (w : Lw) (st : Nat → Nat) (N : Nat) : Prop := ∀ u, u < 8 → cnt (fun x => (st x).testBit u) N ≤ lti w ∧ cnt (fun x => (st x).testBit u) N ≤ lst w u
abbrev LWf (w : Lw) (st he : Nat → Nat) : List Nat → Nat → Prop := LW (ajf w st he) (lhe w = 1) (htf he)
abbrev ELf (w : Lw) (st he : Nat → Nat) : Nat → Nat → Prop := EL (ajf w st he) (lhe w = 1) (htf he)
def CA (w : Lw) (st he : Nat → Nat) (N : Nat) : Prop := stG w st N ∧ ∃ a, LWf w st he a (2 ^ N - 1)
noncomputable def elB (w : Lw) (st he : Nat → Nat) (s d : Nat) : Bool := @decide (ELf w st he s d) (Classical.propDecidable _)
theorem elB_i {w : Lw} {st he : Nat → Nat} {s d : Nat} : elB w st he s d = true ↔ ELf w st he s d := @decide_eq_true_iff _ (Classical.propDecidable _)
theorem fullF (n : Nat) : ∀ i, (2 ^ n - 1).testBit i = true ↔ i < n := fun i => by
  rw [Nat.testBit_two_pow_sub_one]
  simp
theorem p2_11 {N : Nat} (h : N ≤ 11) : 2 ^ N ≤ 2048 := p2_le (n := 11) h
theorem bm_one {P : Nat → Bool} {x : Nat} {b : Bool} {n : Nat} (hx : x < n) : bm (fun d => P d || (d == x && b)) n = bm P n ||| (if b then 2 ^ x else 0) := by
  apply Nat.eq_of_testBit_eq
  intro i
  rw [Nat.testBit_or, bm_tb, bm_tb]
  cases b with
  | false =>
    rw [if_neg (by decide), Nat.zero_testBit, Bool.and_false, Bool.or_false, Bool.or_false]
  | true =>
    rw [if_pos rfl, Nat.testBit_two_pow, Bool.and_true]
    by_cases hi : i = x
    · subst hi
      simp [hx]
    · have h1 : (i == x) = false := by simpa using hi
      have h2 : decide (x = i) = false := decide_eq_false (fun z => hi z.symm)
      rw [h1, h2, Bool.or_false, Bool.or_false]
theorem bm_none {P : Nat → Bool} {n : Nat} (h : ∀ i, i < n → P i = false) : bm P n = 0 := by
  apply Nat.eq_of_testBit_eq
  intro i
  rw [bm_tb, Nat.zero_testBit]
  by_cases hi : i < n
  · rw [h i hi, Bool.and_false]
  · rw [decide_eq_false hi, Bool.false_and]
theorem bm_ne0 {P : Nat → Bool} {n : Nat} : bm P n ≠ 0 ↔ ∃ i, i < n ∧ P i = true := by
  constructor
  · intro h
    cases ha : anb P n with
    | true => exact anb_iff.mp ha
    | false => exact absurd (bm_none (fun i hi => anb_f ha hi)) h
  · rintro ⟨i, h1, h2⟩ z
    have : (bm P n).testBit i = true := by rw [bm_tb, decide_eq_true h1, h2]; rfl
    rw [z, Nat.zero_testBit] at this
    cases this
theorem c_sharedG (d : Nat) {μ : jM} {N : Nat} {st he : Nat → Nat} (hN : N ≤ 11) (h : FX μ N st he) (x y : Nat) (hx : x < N) (hy : y < N) : CL (d + 2) 239 [jR 69, jI x, jI y] μ = rI (pc (st x &&& st y) : Nat) μ := by
  obtain ⟨a1, a2, -, -⟩ := h x hx
  obtain ⟨b1, b2, -, -⟩ := h y hy
  have a3 := Nat.and_le_left (n := st x) (m := st y)
  rw [e_X12_shared, gd_t (by omega), gd_t (by omega), a1, b1, and_nn _ _ (by omega) (by omega), c_bc _ _ _ (by omega), bI_r]
/-- what stands at a set, the sets below a done, of a the first x -/
noncomputable def laP (w : Lw) (st he : Nat → Nat) (a x t d : Nat) : Bool := (t.testBit d && (decide (nd t (2 ^ d) < a) || (decide (nd t (2 ^ d) = a) && decide (d < x)))) && elB w st he t d
noncomputable def laV (w : Lw) (st he : Nat → Nat) (N a x t : Nat) : Nat := bm (fun d => laP w st he a x t d) N
theorem laV_n {w : Lw} {st he : Nat → Nat} {N a t : Nat} : laV w st he N a N t = laV w st he N (a + 1) 0 t := bm_cg (fun d hd => by
  unfold laP
  have e : (decide (nd t (2 ^ d) < a) || (decide (nd t (2 ^ d) = a) && decide (d < N))) = (decide (nd t (2 ^ d) < a + 1) || (decide (nd t (2 ^ d) = a + 1) && decide (d < 0))) := by
    rw [decide_eq_true hd, Bool.and_true, decide_eq_false (Nat.not_lt_zero d), Bool.and_false, Bool.or_false, ← Bool.decide_or]
    apply decide_eq_decide.mpr
    omega
  rw [e])
theorem laV_own {w : Lw} {st he : Nat → Nat} {N a x : Nat} : laV w st he N a x a = bm (fun d => a.testBit d && elB w st he a d) N := bm_cg (fun d hd => by
  unfold laP
  cases hb : a.testBit d with
  | false => rfl
  | true =>
    rw [decide_eq_true (nd_lt hb)]
    rfl)
theorem laV_in {w : Lw} {st he : Nat → Nat} {N a x t : Nat} (hx : a.testBit x = true) : laV w st he N a (x + 1) t = laV w st he N a x t := bm_cg (fun d hd => by
  unfold laP
  cases hb : t.testBit d with
  | false => rfl
  | true =>
    have e : (decide (nd t (2 ^ d) = a) && decide (d < x + 1)) = (decide (nd t (2 ^ d) = a) && decide (d < x)) := by
      by_cases hz : nd t (2 ^ d) = a
      · have hdx : d ≠ x := fun z => by
          have : (nd t (2 ^ d)).testBit d = false := by rw [nd_tb, Nat.testBit_two_pow]; simp
          rw [hz, z, hx] at this
          cases this
        rw [decide_eq_true hz, Bool.true_and, Bool.true_and]
        apply decide_eq_decide.mpr
        omega
      · rw [decide_eq_false hz, Bool.false_and, Bool.false_and]
    rw [e])
theorem laV_out {w : Lw} {st he : Nat → Nat} {N a x t : Nat} (hxN : x < N) (hx : a.testBit x = false) : laV w st he N a (x + 1) t = if t = a ||| 2 ^ x then laV w st he N a x t ||| (if elB w st he t x then 2 ^ x else 0) else laV w st he N a x t := by
  by_cases ht : t = a ||| 2 ^ x
  · rw [if_pos ht]
    unfold laV
    rw [← bm_one hxN]
    refine bm_cg (fun d hd => ?_)
    unfold laP
    by_cases hdx : d = x
    · subst hdx
      have e1 : nd t (2 ^ d) = a := by rw [ht]; exact or_nd hx
      have e2 : t.testBit d = true := by rw [ht, tb_or2]; simp
      rw [e1, e2]
      simp
    · have h1 : (d == x) = false := by simpa using hdx
      have e : decide (d < x + 1) = decide (d < x) := decide_eq_decide.mpr (by omega)
      rw [h1, e, Bool.false_and, Bool.or_false]
  · rw [if_neg ht]
    refine bm_cg (fun d hd => ?_)
    unfold laP
    cases hb : t.testBit d with
    | false => rfl
    | true =>
      have e : (decide (nd t (2 ^ d) = a) && decide (d < x + 1)) = (decide (nd t (2 ^ d) = a) && decide (d < x)) := by
        by_cases hz : nd t (2 ^ d) = a
        · have hdx : d ≠ x := fun z => ht (by rw [← hz, z]; exact (nd_or (by rw [← z]; exact hb)).symm)
          rw [decide_eq_true hz, Bool.true_and, Bool.true_and]
          apply decide_eq_decide.mpr
          omega
        · rw [decide_eq_false hz, Bool.false_and, Bool.false_and]
      rw [e]
theorem c_X12_canAll (d : Nat) {μ : jM} {w : Lw} (hw : LR μ w) (N : Nat) (hN : N ≤ 11) (st he : Nat → Nat) (hf : FX μ N st he) : ∃ (μ' : jM) (v : Int), CL (d + 3) 309 [jR 69, jI N] μ = rI v μ' ∧ (∀ q, q ≠ 95 → μ' q = μ q) ∧ (v = 1 ∧ CA w st he N ∨ v = 0 ∧ ¬ CA w st he N) := by
  have h2N := p2_11 hN
  have h2p := Nat.two_pow_pos N
  have hlok := hw.1
  have hhot : bm (fun x => he x == 1) N < 2048 := Nat.lt_of_lt_of_le (bm_lt _ N) h2N
  -- the hot ones
  have s1 : CL (d + 3) 309 [jR 69, jI N] μ = EV (d + 2) T_X12_canAll 2 [some (jR 69), some (jI N), some (jI (2 ^ N - 1 : Nat)), some (jI (bm (fun x => he x == 1) N : Nat)), some (jI 0), none, none, none] [] μ := by
    rw [e_X12_canAll, show jshl 1 (N : Int) = ((2 ^ N : Nat) : Int) from shl_1 N (by omega), w_id (x := ((2 ^ N : Nat) : Int) - 1) (by omega) (by omega), show ((2 ^ N : Nat) : Int) - 1 = ((2 ^ N - 1 : Nat) : Int) by omega]
    refine (lp_0 (fun i : Nat => EV (d + 2) T_X12_canAll 1 [some (jR 69), some (jI N), some (jI (2 ^ N - 1 : Nat)), some (jI (bm (fun x => he x == 1) i : Nat)), some (jI i), none, none, none] [] μ) N (fun i hi => ?_)).trans ?_
    · obtain ⟨-, -, f3, f4⟩ := hf i hi
      have h2i := p2_le (show i ≤ 11 by omega)
      have e := bm_or (fun x => he x == 1) i (by omega)
      rw [e_X12_canAll_1, if_pos (by omega), gd_t (by omega), f3, w_s i (by omega), shl_1 i (by omega), ← e]
      by_cases hz : he i = 0
      · have hb : (he i == 1) = false := by rw [hz]; rfl
        rw [if_pos (by omega), hb]
        rfl
      · have hb : (he i == 1) = true := by rw [show he i = 1 by omega]; rfl
        rw [if_neg (by omega), hb]
        rfl
    · rw [e_X12_canAll_1, if_neg (by omega)]
  -- the stores
  have s2 : ∀ u : Nat, u < 8 → EV (d + 2) T_X12_canAll 2 [some (jR 69), some (jI N), some (jI (2 ^ N - 1 : Nat)), some (jI (bm (fun x => he x == 1) N : Nat)), some (jI u), none, none, none] [] μ = if lti w < cnt (fun x => (st x).testBit u) N ∨ lst w u < cnt (fun x => (st x).testBit u) N then rI 0 μ else EV (d + 2) T_X12_canAll 2 [some (jR 69), some (jI N), some (jI (2 ^ N - 1 : Nat)), some (jI (bm (fun x => he x == 1) N : Nat)), some (jI (u + 1 : Nat)), none, none, none] [] μ := fun u hu => by
    have hc := cnt_le (fun x => (st x).testBit u) N
    rw [e_X12_canAll_2, if_pos (by omega)]
    refine (lp_0 (fun i : Nat => EV (d + 2) T_X12_canAll 3 [some (jR 69), some (jI N), some (jI (2 ^ N - 1 : Nat)), some (jI (bm (fun x => he x == 1) N : Nat)), some (jI u), some (jI (cnt (fun x => (st x).testBit u) i : Nat)), some (jI i), none] [] μ) N (fun i hi => ?_)).trans ?_
    · obtain ⟨f1, f2, -, -⟩ := hf i hi
      have hci := cnt_le (fun x => (st x).testBit u) i
      have ec : cnt (fun x => (st x).testBit u) (i + 1) = cnt (fun x => (st x).testBit u) i + (if (st i).testBit u then 1 else 0) := rfl
      rw [e_X12_canAll_3, if_pos (by omega), gd_t (by omega), f1, c_X12_has _ _ _ u (by omega) (by omega), bI_r, w_s i (by omega), ec]
      cases (st i).testBit u with
      | false =>
        rw [z_f, w_id (by omega) (by omega)]
        rfl
      | true =>
        rw [z_t, w_s _ (by omega)]
        rfl
    · rw [e_X12_canAll_3, if_neg (by omega), hw.2.2.1, hw.2.2.2.2 u hu, w_s u (by omega)]
      by_cases h1 : lti w < cnt (fun x => (st x).testBit u) N
      · rw [if_pos (by omega), if_pos (Or.inl h1), gd_t (by decide)]
      · rw [if_neg (by omega), gd_t (by omega)]
        by_cases h2 : lst w u < cnt (fun x => (st x).testBit u) N
        · rw [if_pos (by omega), if_pos (Or.inr h2), gd_t (by decide)]
        · rw [if_neg (by omega), if_neg (fun z => z.elim h1 h2)]
  let bad : Nat → Bool := fun u => decide (lti w < cnt (fun x => (st x).testBit u) N ∨ lst w u < cnt (fun x => (st x).testBit u) N)
  have s3 := lp_fs (fun u : Nat => EV (d + 2) T_X12_canAll 2 [some (jR 69), some (jI N), some (jI (2 ^ N - 1 : Nat)), some (jI (bm (fun x => he x == 1) N : Nat)), some (jI u), none, none, none] [] μ) bad 8 (fun u hu hb _ => by
    have hb : ¬ (lti w < cnt (fun x => (st x).testBit u) N ∨ lst w u < cnt (fun x => (st x).testBit u) N) := of_decide_eq_false hb
    show EV (d + 2) T_X12_canAll 2 [some (jR 69), some (jI N), some (jI (2 ^ N - 1 : Nat)), some (jI (bm (fun x => he x == 1) N : Nat)), some (jI u), none, none, none] [] μ = _
    rw [s2 u hu, if_neg hb])
  obtain ⟨p1, p2, p3⟩ := fs_spec bad 8
  have s4 : CL (d + 3) 309 [jR 69, jI N] μ = EV (d + 2) T_X12_canAll 2 [some (jR 69), some (jI N), some (jI (2 ^ N - 1 : Nat)), some (jI (bm (fun x => he x == 1) N : Nat)), some (jI (fs bad 8 : Nat)), none, none, none] [] μ := s1.trans s3
  by_cases hbad : fs bad 8 < 8
  · have hb := of_decide_eq_true (p3 hbad)
    refine ⟨μ, 0, ?_, fun _ _ => rfl, Or.inr ⟨rfl, fun z => ?_⟩⟩
    · rw [s4, s2 _ hbad, if_pos hb]
    · have := z.1 _ hbad
      omega
  have hst : stG w st N := fun u hu => by
    have := of_decide_eq_false (p2 u (by omega))
    omega
  have e8 : fs bad 8 = 8 := by omega
  rw [e8] at s4
  -- the table
  let g0 : Nat → Int := fun _ => 0
  have s5 : CL (d + 3) 309 [jR 69, jI N] μ = EV (d + 2) T_X12_canAll 5 [some (jR 69), some (jI N), some (jI (2 ^ N - 1 : Nat)), some (jI (bm (fun x => he x == 1) N : Nat)), some (jI 0), none, none, none] [] (jpre μ 95 g0 (2 ^ N)) := by
    rw [s4]
    show EV (d + 2) T_X12_canAll 2 [some (jR 69), some (jI N), some (jI (2 ^ N - 1 : Nat)), some (jI (bm (fun x => he x == 1) N : Nat)), some (jI 8), none, none, none] [] μ = _
    rw [e_X12_canAll_2, if_neg (by decide)]
    have := lp_0 (fun i : Nat => EV (d + 2) T_X12_canAll 4 [some (jR 69), some (jI N), some (jI (2 ^ N - 1 : Nat)), some (jI (bm (fun x => he x == 1) N : Nat)), some (jI i), none, none, none] [] (jpre μ 95 g0 i)) (2 ^ N) (fun i hi => by
      show EV (d + 2) T_X12_canAll 4 [some (jR 69), some (jI N), some (jI (2 ^ N - 1 : Nat)), some (jI (bm (fun x => he x == 1) N : Nat)), some (jI i), none, none, none] [] (jpre μ 95 g0 i) = _
      rw [e_X12_canAll_4, if_neg (by omega), gd_t (by omega), w_s i (by omega), jpre_s μ 95 g0 i rfl])
    have e0 : jpre μ 95 g0 0 = μ := jpre_0 μ 95 g0
    have this : EV (d + 2) T_X12_canAll 4 [some (jR 69), some (jI N), some (jI (2 ^ N - 1 : Nat)), some (jI (bm (fun x => he x == 1) N : Nat)), some (jI 0), none, none, none] [] (jpre μ 95 g0 0) = EV (d + 2) T_X12_canAll 4 [some (jR 69), some (jI N), some (jI (2 ^ N - 1 : Nat)), some (jI (bm (fun x => he x == 1) N : Nat)), some (jI (2 ^ N : Nat)), none, none, none] [] (jpre μ 95 g0 (2 ^ N)) := this
    rw [e0] at this
    refine this.trans ?_
    rw [e_X12_canAll_4, if_pos (by omega)]
  let e : Nat → Nat → Bool := elB w st he
  let J : Nat → Nat → jM → Prop := fun a x m => (∀ q, q ≠ 95 → m q = μ q) ∧ ∀ t : Nat, t < 2 ^ N → m 95 (t : Int) = (laV w st he N a x t : Nat)
  have pics : ∀ m, (∀ q, q ≠ 95 → m q = μ q) → LR m w ∧ FX m N st he := fun m f => ⟨LR_cg hw (f 70 (by decide)) (by rw [f 69 (by decide)]) (by rw [f 69 (by decide)]) (by rw [f 69 (by decide)]), fun x hx => by rw [f 71 (by decide), f 73 (by decide)]; exact hf x hx⟩
  have lab : ∀ (a x t : Nat), laV w st he N a x t < 2048 := fun a x t => Nat.lt_of_lt_of_le (bm_lt _ N) h2N
  -- one more
  have one : ∀ a x m, a < 2 ^ N - 1 → x < N → J a x m → ∃ m', EV (d + 2) T_X12_canAll 6 [some (jR 69), some (jI N), some (jI (2 ^ N - 1 : Nat)), some (jI (bm (fun x => he x == 1) N : Nat)), some (jI a), some (jI x), none, none] [] m = EV (d + 2) T_X12_canAll 6 [some (jR 69), some (jI N), some (jI (2 ^ N - 1 : Nat)), some (jI (bm (fun x => he x == 1) N : Nat)), some (jI a), some (jI ((x + 1 : Nat) : Int)), none, none] [] m' ∧ J a (x + 1) m' := by
    intro a x m ha hx hJ
    obtain ⟨hw1, hf1⟩ := pics m hJ.1
    obtain ⟨x1, x2, x3, x4⟩ := hf1 x hx
    have h2x := p2_le (show x ≤ 10 by omega)
    rw [e_X12_canAll_6, if_pos (by omega), c_X12_has _ _ a x (by omega) (by omega), bI_r, w_s x (by omega)]
    cases hax : a.testBit x with
    | true =>
      rw [z_t]
      exact ⟨m, rfl, hJ.1, fun t ht => by rw [laV_in hax]; exact hJ.2 t ht⟩
    | false =>
      have hor : a ||| 2 ^ x < 2 ^ N := Nat.or_lt_two_pow (by omega) (Nat.pow_lt_pow_right (by decide) hx)
      have own : m 95 (a : Int) = (bm (fun d => a.testBit d && e a d) N : Nat) := by
        rw [hJ.2 a (by omega), laV_own]
      have hownb : bm (fun d => a.testBit d && e a d) N < 2048 := Nat.lt_of_lt_of_le (bm_lt _ N) h2N
      have hlen : e (a ||| 2 ^ x) x = true ↔ (lhe w = 1 → htf he x = false → ∀ y, a.testBit y = true → htf he y = false) ∧ (a = 0 ∨ ∃ l, ELf w st he a l ∧ ajf w st he l x = true) := elB_i.trans (EL_step hax)
      have done0 : e (a ||| 2 ^ x) x = false → J a (x + 1) m := fun hz => ⟨hJ.1, fun t ht => by
        rw [laV_out hx hax]
        by_cases htt : t = a ||| 2 ^ x
        · have hz2 : elB w st he t x = false := by rw [htt]; exact hz
          rw [if_pos htt, hz2, if_neg (by decide), Nat.or_zero]
          exact hJ.2 t ht
        · rw [if_neg htt]
          exact hJ.2 t ht⟩
      have done1 : e (a ||| 2 ^ x) x = true → J a (x + 1) (jup m 95 ((a ||| 2 ^ x : Nat) : Int) ((laV w st he N a x (a ||| 2 ^ x) ||| 2 ^ x : Nat) : Int)) := fun hz => ⟨fun q hq => (jup_ne hq).trans (hJ.1 q hq), fun t ht => by
        rw [laV_out hx hax]
        by_cases htt : t = a ||| 2 ^ x
        · have hz2 : elB w st he t x = true := by rw [htt]; exact hz
          rw [if_pos htt, hz2, if_pos rfl, htt]
          exact jup_r _ _ _ _
        · rw [if_neg htt, jup_m (by omega)]
          exact hJ.2 t ht⟩
      rw [z_f]
      -- the last ones
      let P : Nat → Bool := fun l => (a.testBit l && e a l) && ajf w st he l x
      have hP : anb P N = true ↔ ∃ l, ELf w st he a l ∧ ajf w st he l x = true := by
        rw [anb_iff]
        constructor
        · rintro ⟨l, -, h2⟩
          have h2 : ((a.testBit l && e a l) && ajf w st he l x) = true := h2
          rw [Bool.and_eq_true, Bool.and_eq_true] at h2
          exact ⟨l, elB_i.mp h2.1.2, h2.2⟩
        · rintro ⟨l, h1, h2⟩
          have hl : l < N := by
            cases Nat.lt_or_ge l N with
            | inl z => exact z
            | inr z =>
              have := EL_in h1
              rw [tb_hi (n := N) (by omega) z] at this
              cases this
          refine ⟨l, hl, ?_⟩
          show ((a.testBit l && e a l) && ajf w st he l x) = true
          rw [EL_in h1, show e a l = true from elB_i.mpr h1, h2]
          rfl
      have put : ∀ l : Int, EV (d + 2) T_X12_canAll 7 [some (jR 69), some (jI N), some (jI (2 ^ N - 1 : Nat)), some (jI (bm (fun x => he x == 1) N : Nat)), some (jI a), some (jI x), some (jI 1), some (jI l)] [] m = EV (d + 2) T_X12_canAll 6 [some (jR 69), some (jI N), some (jI (2 ^ N - 1 : Nat)), some (jI (bm (fun x => he x == 1) N : Nat)), some (jI a), some (jI ((x + 1 : Nat) : Int)), none, none] [] (jup m 95 ((a ||| 2 ^ x : Nat) : Int) ((laV w st he N a x (a ||| 2 ^ x) ||| 2 ^ x : Nat) : Int)) := fun l => by
        have hl := lab a x (a ||| 2 ^ x)
        have hor2 : jor (m 95 ((a ||| 2 ^ x : Nat) : Int)) ((2 ^ x : Nat) : Int) = ((laV w st he N a x (a ||| 2 ^ x) ||| 2 ^ x : Nat) : Int) := by
          rw [hJ.2 _ hor, or_nn _ _ (by omega) (by omega)]
        rw [e_X12_canAll_7, w_s x (by omega), shl_1 x (by omega), or_nn a (2 ^ x) (by omega) (by omega), hor2]
        by_cases hlN : l < (N : Int)
        · rw [if_pos hlN, if_neg (by decide), if_neg (by decide), gd_t (by omega), gd_t (by omega)]
        · rw [if_neg hlN, if_neg (by decide), gd_t (by omega), gd_t (by omega)]
      -- behind the heat
      have go : (lhe w = 1 → htf he x = false → ∀ y, a.testBit y = true → htf he y = false) → ∃ m', (if (a : Int) = 0 then EV (d + 2) T_X12_canAll 7 [some (jR 69), some (jI N), some (jI (2 ^ N - 1 : Nat)), some (jI (bm (fun x => he x == 1) N : Nat)), some (jI a), some (jI x), some (jI 1), some (jI 0)] [] m else EV (d + 2) T_X12_canAll 7 [some (jR 69), some (jI N), some (jI (2 ^ N - 1 : Nat)), some (jI (bm (fun x => he x == 1) N : Nat)), some (jI a), some (jI x), some (jI 0), some (jI 0)] [] m) = EV (d + 2) T_X12_canAll 6 [some (jR 69), some (jI N), some (jI (2 ^ N - 1 : Nat)), some (jI (bm (fun x => he x == 1) N : Nat)), some (jI a), some (jI ((x + 1 : Nat) : Int)), none, none] [] m' ∧ J a (x + 1) m' := fun hheat => by
        by_cases ha0 : a = 0
        · rw [if_pos (by omega), put]
          exact ⟨_, rfl, done1 (hlen.mpr ⟨hheat, Or.inl ha0⟩)⟩
        · rw [if_neg (by omega)]
          have step : ∀ l : Nat, l < N → EV (d + 2) T_X12_canAll 7 [some (jR 69), some (jI N), some (jI (2 ^ N - 1 : Nat)), some (jI (bm (fun x => he x == 1) N : Nat)), some (jI a), some (jI x), some (jI 0), some (jI l)] [] m = if P l then EV (d + 2) T_X12_canAll 7 [some (jR 69), some (jI N), some (jI (2 ^ N - 1 : Nat)), some (jI (bm (fun x => he x == 1) N : Nat)), some (jI a), some (jI x), some (jI 1), some (jI ((l + 1 : Nat) : Int))] [] m else EV (d + 2) T_X12_canAll 7 [some (jR 69), some (jI N), some (jI (2 ^ N - 1 : Nat)), some (jI (bm (fun x => he x == 1) N : Nat)), some (jI a), some (jI x), some (jI 0), some (jI ((l + 1 : Nat) : Int))] [] m := fun l hl => by
            obtain ⟨l1, l2, l3, l4⟩ := hf1 l hl
            have hPl : P l = ((a.testBit l && e a l) && (decide (lsh w ≤ pc (st l &&& st x)) && !(lhe w == 2 && (he l == he x)))) := rfl
            have hpc := pc_12 (st l &&& st x)
            rw [e_X12_canAll_7, if_pos (by omega), if_pos rfl, gd_t (by omega), own, c_X12_has _ _ _ l (by omega) (by omega), bI_r, bm_tb, decide_eq_true hl, Bool.true_and, w_s l (by omega), hPl]
            cases (a.testBit l && e a l) with
            | false =>
              rw [z_f, Bool.false_and, if_neg (by decide)]
            | true =>
              rw [z_t, Bool.true_and, c_sharedG _ hN hf1 l x hl hx, bI_r, hw1.2.1, hw1.2.2.2.1]
              by_cases hsh : lsh w ≤ pc (st l &&& st x)
              · rw [if_neg (by omega), decide_eq_true hsh, Bool.true_and]
                by_cases h2 : lhe w = 2
                · have h2b : (lhe w == 2) = true := by simpa using h2
                  rw [if_pos (by omega), gd_t (by omega), gd_t (by omega), l3, x3, h2b, Bool.true_and]
                  by_cases hlx : he l = he x
                  · have hb : (he l == he x) = true := by simpa using hlx
                    rw [if_pos (by omega), hb, if_neg (by decide)]
                  · have hb : (he l == he x) = false := by simpa using hlx
                    rw [if_neg (by omega), hb, if_pos (by decide)]
                · have h2b : (lhe w == 2) = false := by simpa using h2
                  rw [if_neg (by omega), h2b, Bool.false_and, if_pos (by decide)]
              · rw [if_pos (by omega), decide_eq_false hsh, Bool.false_and, if_neg (by decide)]
          have run := lp_fs (fun l : Nat => EV (d + 2) T_X12_canAll 7 [some (jR 69), some (jI N), some (jI (2 ^ N - 1 : Nat)), some (jI (bm (fun x => he x == 1) N : Nat)), some (jI a), some (jI x), some (jI 0), some (jI l)] [] m) P N (fun l hl hz _ => by
            show EV (d + 2) T_X12_canAll 7 [some (jR 69), some (jI N), some (jI (2 ^ N - 1 : Nat)), some (jI (bm (fun x => he x == 1) N : Nat)), some (jI a), some (jI x), some (jI 0), some (jI l)] [] m = _
            rw [step l hl, hz, if_neg (by decide)])
          have run : EV (d + 2) T_X12_canAll 7 [some (jR 69), some (jI N), some (jI (2 ^ N - 1 : Nat)), some (jI (bm (fun x => he x == 1) N : Nat)), some (jI a), some (jI x), some (jI 0), some (jI 0)] [] m = EV (d + 2) T_X12_canAll 7 [some (jR 69), some (jI N), some (jI (2 ^ N - 1 : Nat)), some (jI (bm (fun x => he x == 1) N : Nat)), some (jI a), some (jI x), some (jI 0), some (jI (fs P N : Nat))] [] m := run
          obtain ⟨q1, q2, q3⟩ := fs_spec P N
          rw [run]
          by_cases hz : fs P N < N
          · rw [step _ hz, q3 hz, if_pos rfl, put]
            exact ⟨_, rfl, done1 (hlen.mpr ⟨hheat, Or.inr (hP.mp ((fs_anb P N).mp hz))⟩)⟩
          · have hzN : fs P N = N := by omega
            rw [hzN, e_X12_canAll_7, if_neg (by omega), if_pos rfl, w_s x (by omega)]
            refine ⟨m, rfl, done0 ?_⟩
            cases hee : e (a ||| 2 ^ x) x with
            | false => rfl
            | true =>
              rcases (hlen.mp hee).2 with h0 | h0
              · exact absurd h0 ha0
              · exact absurd ((fs_anb P N).mpr (hP.mpr h0)) hz
      have hheat0 : (lhe w ≠ 1 ∨ he x ≠ 0 ∨ a &&& bm (fun x => he x == 1) N = 0) → (lhe w = 1 → htf he x = false → ∀ y, a.testBit y = true → htf he y = false) := fun hc h1 h2 y hy => by
        have h2 : (he x == 1) = false := h2
        have h2 : he x ≠ 1 := by simpa using h2
        rcases hc with z | z | z
        · exact absurd h1 z
        · omega
        · cases hyy : htf he y with
          | false => rfl
          | true =>
            have hyN : y < N := by
              cases Nat.lt_or_ge y N with
              | inl z => exact z
              | inr z =>
                rw [tb_hi (n := N) (by omega) z] at hy
                cases hy
            have : (a &&& bm (fun x => he x == 1) N).testBit y = true := by
              rw [Nat.testBit_and, hy, bm_tb, decide_eq_true hyN, show (he y == 1) = true from hyy]
              rfl
            rw [z, Nat.zero_testBit] at this
            cases this
      rw [hw1.2.2.2.1]
      by_cases h1 : lhe w = 1
      · rw [if_pos (by omega), gd_t (by omega), x3]
        by_cases hx0 : he x = 0
        · rw [if_pos (by omega), and_nn _ _ (by omega) (by omega)]
          by_cases hah : a &&& bm (fun x => he x == 1) N = 0
          · rw [if_pos (by omega)]
            exact go (hheat0 (Or.inr (Or.inr hah)))
          · rw [if_neg (by omega)]
            refine ⟨m, rfl, done0 ?_⟩
            cases hee : e (a ||| 2 ^ x) x with
            | false => rfl
            | true =>
              have hcold := (hlen.mp hee).1 h1 (by show (he x == 1) = false; rw [hx0]; rfl)
              refine absurd (Nat.eq_of_testBit_eq (fun i => ?_)) hah
              rw [Nat.testBit_and, Nat.zero_testBit, bm_tb]
              cases hi : a.testBit i with
              | false => rfl
              | true =>
                rw [show (he i == 1) = false from hcold i hi, Bool.and_false, Bool.and_false]
        · rw [if_neg (by omega)]
          exact go (hheat0 (Or.inr (Or.inl hx0)))
      · rw [if_neg (by omega)]
        exact go (hheat0 (Or.inl h1))
  have all : ∃ m, EV (d + 2) T_X12_canAll 5 [some (jR 69), some (jI N), some (jI (2 ^ N - 1 : Nat)), some (jI (bm (fun x => he x == 1) N : Nat)), some (jI 0), none, none, none] [] (jpre μ 95 g0 (2 ^ N)) = EV (d + 2) T_X12_canAll 5 [some (jR 69), some (jI N), some (jI (2 ^ N - 1 : Nat)), some (jI (bm (fun x => he x == 1) N : Nat)), some (jI (2 ^ N - 1 : Nat)), none, none, none] [] m ∧ J (2 ^ N - 1) 0 m := by
    refine lp_i (fun (a : Nat) (m : jM) => EV (d + 2) T_X12_canAll 5 [some (jR 69), some (jI N), some (jI (2 ^ N - 1 : Nat)), some (jI (bm (fun x => he x == 1) N : Nat)), some (jI a), none, none, none] [] m) (fun a m => J a 0 m) (2 ^ N - 1) (fun a m ha hJ => ?_) _ ⟨fun q hq => jpre_ne hq, fun t ht => ?_⟩
    · obtain ⟨m2, e2, j2⟩ := lp_i (fun (x : Nat) (m : jM) => EV (d + 2) T_X12_canAll 6 [some (jR 69), some (jI N), some (jI (2 ^ N - 1 : Nat)), some (jI (bm (fun x => he x == 1) N : Nat)), some (jI a), some (jI x), none, none] [] m) (fun x m => J a x m) N (fun x m hx hJ => one a x m ha hx hJ) m hJ
      have e2 : EV (d + 2) T_X12_canAll 6 [some (jR 69), some (jI N), some (jI (2 ^ N - 1 : Nat)), some (jI (bm (fun x => he x == 1) N : Nat)), some (jI a), some (jI 0), none, none] [] m = EV (d + 2) T_X12_canAll 6 [some (jR 69), some (jI N), some (jI (2 ^ N - 1 : Nat)), some (jI (bm (fun x => he x == 1) N : Nat)), some (jI a), some (jI N), none, none] [] m2 := e2
      have j2 : J a N m2 := j2
      refine ⟨m2, ?_, j2.1, fun t ht => by rw [← laV_n]; exact j2.2 t ht⟩
      show EV (d + 2) T_X12_canAll 5 [some (jR 69), some (jI N), some (jI (2 ^ N - 1 : Nat)), some (jI (bm (fun x => he x == 1) N : Nat)), some (jI a), none, none, none] [] m = EV (d + 2) T_X12_canAll 5 [some (jR 69), some (jI N), some (jI (2 ^ N - 1 : Nat)), some (jI (bm (fun x => he x == 1) N : Nat)), some (jI ((a + 1 : Nat) : Int)), none, none, none] [] m2
      rw [e_X12_canAll_5, if_pos (by omega), e2, e_X12_canAll_6, if_neg (by omega), w_s a (by omega)]
    · have e0 : laV w st he N 0 0 t = 0 := bm_none (fun d _ => by
        unfold laP
        rw [decide_eq_false (Nat.not_lt_zero _), decide_eq_false (Nat.not_lt_zero d), Bool.and_false, Bool.or_false, Bool.and_false, Bool.false_and])
      rw [jpre_lo ht, e0]
      rfl
  obtain ⟨m, e1, hJ⟩ := all
  have hm95 : m 95 ((2 ^ N - 1 : Nat) : Int) = (bm (fun d => (2 ^ N - 1).testBit d && e (2 ^ N - 1) d) N : Nat) := by
    rw [hJ.2 _ (by omega), laV_own]
  have hri := row_iff (adj := ajf w st he) (h1 := lhe w = 1) (ht := htf he) (fullF N)
  have s6 : CL (d + 3) 309 [jR 69, jI N] μ = EV (d + 2) T_X12_canAll 5 [some (jR 69), some (jI N), some (jI (2 ^ N - 1 : Nat)), some (jI (bm (fun x => he x == 1) N : Nat)), some (jI (2 ^ N - 1 : Nat)), none, none, none] [] m := s5.trans e1
  by_cases hN0 : N = 0
  · refine ⟨m, 1, ?_, hJ.1, Or.inl ⟨rfl, hst, hri.mpr (Or.inl hN0)⟩⟩
    rw [s6, e_X12_canAll_5, if_neg (by omega), if_pos (by omega), gd_t (by decide)]
  · by_cases hz : bm (fun d => (2 ^ N - 1).testBit d && e (2 ^ N - 1) d) N = 0
    · refine ⟨m, 0, ?_, hJ.1, Or.inr ⟨rfl, fun hc => ?_⟩⟩
      · rw [s6, e_X12_canAll_5, if_neg (by omega), if_neg (by omega), gd_t (by omega), hm95, if_pos (by omega), gd_t (by decide)]
      · rcases hri.mp hc.2 with z | ⟨d, hd, hE⟩
        · exact hN0 z
        · refine absurd hz (bm_ne0.mpr ⟨d, hd, ?_⟩)
          rw [(fullF N d).mpr hd, show e (2 ^ N - 1) d = true from elB_i.mpr hE]
          rfl
    · refine ⟨m, 1, ?_, hJ.1, Or.inl ⟨rfl, hst, hri.mpr (Or.inr ?_)⟩⟩
      · rw [s6, e_X12_canAll_5, if_neg (by omega), if_neg (by omega), gd_t (by omega), hm95, if_neg (by omega), gd_t (by decide)]
      · obtain ⟨d, hd, hE⟩ := bm_ne0.mp hz
        exact ⟨d, hd, elB_i.mp (Bool.and_eq_true_iff.mp hE).2⟩
