/-! ## the reference's MENUS -/
def u99 (x : Nat) : Int := if x = 10 then 99 else x
theorem u99_i {x n : Nat} (hn : n ≤ 10) (h : x = 10 ∨ x < n) : u99 x = 99 ↔ x = 10 := by
  unfold u99
  split <;> omega
abbrev Mn : Type := Nat → List Nat
def MRi (μ : jM) (i : Nat) (m : List Nat) : Prop := m.length ≤ 10 ∧ μ 79 i = (m.length : Int) ∧ ∀ j : Nat, j < m.length → μ 78 ((10 * i + j : Nat) : Int) = u99 (m.getD j 10)
def MR (μ : jM) (M : Mn) : Prop := ∀ i, i < 3 → MRi μ i (M i)
def MC (μ : jM) (M : Mn) : Prop := ∀ i, i < 3 → MI μ (52 + 3 * i) (M i)
theorem MRi_cg {μ μ' : jM} {i : Nat} {m : List Nat} (h : MRi μ i m) (e1 : μ' 79 = μ 79) (e2 : μ' 78 = μ 78) : MRi μ' i m := ⟨h.1, by rw [e1]; exact h.2.1, fun j hj => by rw [e2]; exact h.2.2 j hj⟩
theorem MR_cg {μ μ' : jM} {M : Mn} (h : MR μ M) (e1 : μ' 79 = μ 79) (e2 : μ' 78 = μ 78) : MR μ' M := fun i hi => MRi_cg (h i hi) e1 e2
theorem MC_cg {μ μ' : jM} {M : Mn} (h : MC μ M) (e : ∀ q, 52 ≤ q → q ≤ 60 → μ' q = μ q) : MC μ' M := fun i hi => MI_cg (h i hi) (e _ (by omega) (by omega)) (e _ (by omega) (by omega))
theorem ix10 (i j : Nat) (hi : i < 3) (hj : j < 100) : w32 (w32 (10 * (i : Int)) + (j : Int)) = ((10 * i + j : Nat) : Int) := by
  rw [w_id (x := 10 * (i : Int)) (by omega) (by omega), w_id (by omega) (by omega)]
  omega
theorem RF_22 : ∀ i : Nat, i < 3 → RF 22 (i : Int) = 52 + 3 * i := by decide
def laid (M : Mn) (a : Int) : Bool := decide (0 ≤ a ∧ a < 3) && decide (0 < (M a.toNat).length)
def whol (M : Mn) (a : Int) : Bool := laid M a && whl (M a.toNat)
theorem laid_i {M : Mn} {a : Int} (h : laid M a = true) : ∃ i : Nat, i < 3 ∧ a = (i : Int) ∧ 0 < (M i).length := by
  unfold laid at h
  rw [Bool.and_eq_true, decide_eq_true_eq, decide_eq_true_eq] at h
  obtain ⟨⟨h1, h2⟩, h3⟩ := h
  obtain ⟨i, rfl⟩ := Int.eq_ofNat_of_zero_le h1
  rw [Int.toNat_natCast] at h3
  exact ⟨i, by omega, rfl, h3⟩
theorem laid_n (M : Mn) (i : Nat) (hi : i < 3) : laid M (i : Int) = decide (0 < (M i).length) := by
  unfold laid
  rw [Int.toNat_natCast, decide_eq_true (by omega), Bool.true_and]
theorem laid_o {M : Mn} {a : Int} (h : ¬ (0 ≤ a ∧ a < 3)) : laid M a = false := by
  unfold laid
  rw [decide_eq_false h, Bool.false_and]
theorem whl_k {n : Nat} {m : List Nat} (hm : Mok n m) (h : whl m = true) : ∀ i, i < m.length → m.getD i 10 < n := fun i hi => by
  unfold whl at h
  rw [Bool.not_eq_true'] at h
  have := anb_f h hi
  have h2 : m.getD i 10 ≠ 10 := by simpa using this
  rcases Mok_at hm i with z | z
  · exact absurd z h2
  · exact z
theorem c_X11_isLaid (d : Nat) {μ : jM} {M : Mn} (h : MC μ M) (a : Int) : CL (d + 2) 166 [jR 0, jI a] μ = rI (if laid M a then 1 else 0) μ := by
  rw [e_X11_isLaid]
  by_cases ha : 0 ≤ a ∧ a < 3
  · obtain ⟨i, rfl⟩ := Int.eq_ofNat_of_zero_le ha.1
    have hi : i < 3 := by omega
    have hm := h i hi
    rw [if_neg (by omega), if_pos (by omega), gd_t (by omega), RF_22 i hi, cd_t (isM_f hm.1).1, c_X4_size _ hm, bI_r, laid_n M i hi]
    by_cases hz : 0 < (M i).length
    · rw [if_pos (by omega), decide_eq_true hz]
      rfl
    · rw [if_neg (by omega), decide_eq_false hz]
      rfl
  · rw [laid_o ha]
    by_cases h1 : a < 0
    · rw [if_pos h1]
      rfl
    · rw [if_neg h1, if_neg (by omega)]
      rfl
theorem c_X11_isWhole (d : Nat) {μ : jM} {M : Mn} (h : MC μ M) (a : Int) : CL (d + 3) 167 [jR 0, jI a] μ = rI (if whol M a then 1 else 0) μ := by
  rw [e_X11_isWhole, c_X11_isLaid _ h, bI_r]
  unfold whol
  cases hl : laid M a with
  | false => rfl
  | true =>
    obtain ⟨i, hi, rfl, -⟩ := laid_i hl
    have hm := h i hi
    rw [z_t, gd_t (by omega), RF_22 i hi, cd_t (isM_f hm.1).1, c_X4_isKnown _ hm, bI_r, Int.toNat_natCast]
    cases whl (M i) <;> rfl
theorem c_X12_isMenu (d : Nat) {μ : jM} {M : Mn} (h : MR μ M) (a : Int) : CL (d + 2) 250 [jR 69, jI a] μ = rI (if laid M a then 1 else 0) μ := by
  rw [e_X12_isMenu, c_X12_in]
  by_cases ha : 0 ≤ a ∧ a < 3
  · obtain ⟨i, rfl⟩ := Int.eq_ofNat_of_zero_le ha.1
    have hi : i < 3 := by omega
    have hm := h i hi
    rw [if_pos (show (0 : Int) ≤ (i : Int) ∧ (i : Int) ≤ 2 by omega), bI_r, if_neg (show ¬ (1 : Int) = 0 by decide), gd_t (by omega), hm.2.1, laid_n M i hi]
    by_cases hz : 0 < (M i).length
    · rw [if_pos (by omega), decide_eq_true hz]
      rfl
    · rw [if_neg (by omega), decide_eq_false hz]
      rfl
  · rw [laid_o ha, if_neg (show ¬ ((0 : Int) ≤ a ∧ a ≤ 2) by omega)]
    rfl
theorem c_X12_isWhole (d : Nat) {μ : jM} {M : Mn} (h : MR μ M) {n : Nat} (hn : n ≤ 10) (hok : ∀ i, i < 3 → Mok n (M i)) (a : Int) : CL (d + 3) 251 [jR 69, jI a] μ = rI (if whol M a then 1 else 0) μ := by
  rw [e_X12_isWhole, c_X12_isMenu _ h, bI_r]
  unfold whol
  cases hl : laid M a with
  | false => rfl
  | true =>
    obtain ⟨i, hi, rfl, -⟩ := laid_i hl
    obtain ⟨m1, m2, m3⟩ := h i hi
    have hok := hok i hi
    have step : ∀ j : Nat, j < (M i).length → EV (d + 2) T_X12_isWhole 1 [some (jR 69), some (jI i), some (jI j)] [] μ = if (M i).getD j 10 == 10 then rI 0 μ else EV (d + 2) T_X12_isWhole 1 [some (jR 69), some (jI i), some (jI (j + 1 : Nat))] [] μ := by
      intro j hj
      rw [e_X12_isWhole_1, gd_t (by omega), m2, if_pos (by omega), ix10 i j hi (by omega), gd_t (by omega), m3 j hj, w_s j (by omega)]
      by_cases hz : (M i).getD j 10 = 10
      · rw [if_pos ((u99_i hn (Mok_at hok j)).mpr hz), gd_t (by decide), hz]
        rfl
      · have : ((M i).getD j 10 == 10) = false := by simpa using hz
        rw [if_neg (fun z => hz ((u99_i hn (Mok_at hok j)).mp z)), this]
        rfl
    rw [z_t, Int.toNat_natCast, Bool.true_and]
    refine (lp_fs (fun j : Nat => EV (d + 2) T_X12_isWhole 1 [some (jR 69), some (jI i), some (jI j)] [] μ) (fun j => (M i).getD j 10 == 10) (M i).length (fun j hj hp _ => ?_)).trans ?_
    · rw [step j hj, hp]
      rfl
    · obtain ⟨f1, f2, f3⟩ := fs_spec (fun j => (M i).getD j 10 == 10) (M i).length
      unfold whl
      cases ha : anb (fun j => (M i).getD j 10 == 10) (M i).length with
      | true =>
        have hlt := (fs_anb _ _).mpr ha
        rw [step _ hlt, f3 hlt]
        rfl
      | false =>
        have hnlt : ¬ fs (fun j => (M i).getD j 10 == 10) (M i).length < (M i).length := fun z => by
          rw [(fs_anb _ _).mp z] at ha
          cases ha
        have e8 : fs (fun j => (M i).getD j 10 == 10) (M i).length = (M i).length := by omega
        rw [e8, e_X12_isWhole_1, gd_t (by omega), m2, if_neg (by omega), gd_t (by decide)]
        rfl
/-! ### looking -/
def fLk (μ' μ : jM) : Prop := (∀ q, q ≠ 69 → μ' q = μ q) ∧ ∀ j, j < 30 ∨ 34 < j → μ' 69 j = μ 69 j
theorem fLk_r (μ : jM) : fLk μ μ := ⟨fun _ _ => rfl, fun _ _ => rfl⟩
theorem fLk_t {a b c : jM} (h1 : fLk b a) (h2 : fLk c b) : fLk c a := ⟨fun q hq => (h2.1 q hq).trans (h1.1 q hq), fun j hj => (h2.2 j hj).trans (h1.2 j hj)⟩
theorem fLk_u (μ : jM) {j : Int} (hj : 30 ≤ j ∧ j ≤ 34) (v : Int) : fLk (jup μ 69 j v) μ := ⟨fun q hq => jup_ne hq, fun i hi => jup_m (by omega)⟩
theorem fLk_KR {μ' μ : jM} {k : Kt} (f : fLk μ' μ) (h : KR μ k) : KR μ' k := KR_cg h (fun q _ _ => f.1 q (by omega)) (f.2 1 (by omega)) (f.2 6 (by omega))
theorem fLk_LR {μ' μ : jM} {w : Lw} (f : fLk μ' μ) (h : LR μ w) : LR μ' w := LR_cg h (f.1 70 (by omega)) (f.2 9 (by omega)) (f.2 10 (by omega)) (f.2 11 (by omega))
theorem fLk_MR {μ' μ : jM} {M : Mn} (f : fLk μ' μ) (h : MR μ M) : MR μ' M := MR_cg h (f.1 79 (by omega)) (f.1 78 (by omega))
/-- what it has seen of a row till a place -/
def LkS (μ : jM) (k : Kt) (F : List Nat) (t : Nat) : Prop := μ 69 31 = mco k F t ∧ μ 69 32 = (mhu k F t : Int) ∧ μ 69 33 = (mst F t : Int) ∧ μ 69 34 = lno (mla F t)
theorem mla_s (F : List Nat) (t : Nat) : mla F (t + 1) = F.getD t 10 := by
  unfold mla
  rw [if_neg (by omega)]
  rfl
theorem mst_s {F : List Nat} {t : Nat} (h : F.getD t 10 ≠ 10) : mst F (t + 1) = mst F t ||| 2 ^ F.getD t 10 := by
  show mst F t ||| _ = _
  rw [if_neg h]
theorem mla_in {n t : Nat} {F : List Nat} (hF : ∀ j, j < t → F.getD j 10 < n) (hn : n ≤ 10) : mla F t = 10 ∨ mla F t < n ∧ (mst F t).testBit (mla F t) = true := by
  cases t with
  | zero => exact Or.inl rfl
  | succ t =>
    have h1 := hF t (Nat.lt_succ_self t)
    rw [mla_s, mst_s (by omega)]
    refine Or.inr ⟨h1, ?_⟩
    simp [Nat.testBit_or, Nat.testBit_two_pow]
theorem rfs_le (k : Kt) (w : Lw) (s l x : Nat) : -6 ≤ rfs k w s l x ∧ rfs k w s l x ≤ 0 := by
  unfold rfs
  repeat' split
  all_goals omega
theorem mwy_le (k : Kt) (w : Lw) (m : List Nat) (i : Nat) : -6 ≤ mwy k w m i ∧ mwy k w m i ≤ 0 := by
  unfold mwy
  split
  · omega
  · exact rfs_le _ _ _ _ _
theorem mco_b {k : Kt} (hk : Kok k) {F : List Nat} {t : Nat} (ht : t ≤ 20) (hF : ∀ j, j < t → F.getD j 10 < kn k) : 0 ≤ mco k F t ∧ mco k F t ≤ 1980 := by
  have h1 := sm_ge (f := fun j => (kco k (F.getD j 10) : Int)) (n := t) (fun i _ => by show (0 : Int) ≤ (kco k (F.getD i 10) : Int); omega)
  have h2 := (sm_b (f := fun j => (kco k (F.getD j 10) : Int)) (B := 99) t (fun q hq => by
    have := (hk.2.2.1 _ (hF q hq)).2.2.1
    show -99 ≤ (kco k (F.getD q 10) : Int) ∧ (kco k (F.getD q 10) : Int) ≤ 99
    omega)).2
  unfold mco
  omega
theorem c_X12_lookOn (d : Nat) {μ : jM} {k : Kt} {w : Lw} (hk : KR μ k) (hw : LR μ w) (i : Nat) (hi : i < 3) {m : List Nat} (hm : MRi μ i m) (pre : List Nat) (hok : Mok (kn k) (pre ++ m)) (hlen : pre.length ≤ 10) (hpre : ∀ j, j < pre.length → (pre ++ m).getD j 10 < kn k) (hls : LkS μ k (pre ++ m) pre.length) (hmp : 0 < m.length) : ∃ μ', CL (d + 4) 252 [jR 69, jI i] μ = rI (fs (fun x => mwy k w (pre ++ m) (pre.length + x) != 0) m.length : Nat) μ' ∧ fLk μ' μ ∧ μ' 69 30 = (if fs (fun x => mwy k w (pre ++ m) (pre.length + x) != 0) m.length < m.length then mwy k w (pre ++ m) (pre.length + fs (fun x => mwy k w (pre ++ m) (pre.length + x) != 0) m.length) else 0) ∧ LkS μ' k (pre ++ m) (pre.length + fs (fun x => mwy k w (pre ++ m) (pre.length + x) != 0) m.length) ∧ ∀ j, j < pre.length + fs (fun x => mwy k w (pre ++ m) (pre.length + x) != 0) m.length → (pre ++ m).getD j 10 < kn k := by
  have hko := hk.1
  have h10 := hko.1
  have h6 := hko.2.1
  have hN := p2_le h10
  have hm1 := hm.1
  let F := pre ++ m
  let P := pre.length
  have hFm : ∀ j, j < m.length → F.getD (P + j) 10 = m.getD j 10 := fun j hj => by
    show (pre ++ m).getD (pre.length + j) 10 = _
    rw [List.getD_eq_getElem?_getD, List.getD_eq_getElem?_getD, List.getElem?_append_right (by omega), Nat.add_sub_cancel_left]
  let Pd : Nat → Bool := fun x => mwy k w F (P + x) != 0
  obtain ⟨s1, s2, s3⟩ := fs_spec Pd m.length
  -- a place
  have step : ∀ (j : Nat) (μ1 : jM), j < m.length → fLk μ1 μ → LkS μ1 k F (P + j) → (∀ x, x < P + j → F.getD x 10 < kn k) → (Pd j = true → ∃ μ', EV (d + 3) T_X12_lookOn 1 [some (jR 69), some (jI i), some (jI j), none, none] [] μ1 = rI j μ' ∧ fLk μ' μ ∧ μ' 69 30 = mwy k w F (P + j) ∧ LkS μ' k F (P + j)) ∧ (Pd j = false → ∃ μ', EV (d + 3) T_X12_lookOn 1 [some (jR 69), some (jI i), some (jI j), none, none] [] μ1 = EV (d + 3) T_X12_lookOn 1 [some (jR 69), some (jI i), some (jI (j + 1 : Nat)), none, none] [] μ' ∧ fLk μ' μ ∧ μ' 69 30 = 0 ∧ LkS μ' k F (P + (j + 1)) ∧ ∀ x, x < P + (j + 1) → F.getD x 10 < kn k) := by
    intro j μ1 hj g1 l1 hkn
    have k1 := fLk_KR g1 hk
    have w1 := fLk_LR g1 hw
    have m1 : MRi μ1 i m := MRi_cg hm (g1.1 79 (by omega)) (g1.1 78 (by omega))
    have hmj := hFm j hj
    have hmo : m.getD j 10 = 10 ∨ m.getD j 10 < kn k := by rw [← hmj]; exact Mok_at hok _
    have hmw := mwy_le k w F (P + j)
    rw [e_X12_lookOn_1, gd_t (by omega), m1.2.1, if_pos (by omega), ix10 i j hi (by omega), gd_t (by omega), m1.2.2 j hj]
    by_cases hz : m.getD j 10 = 10
    · have hwy : mwy k w F (P + j) = -1 := by
        unfold mwy
        rw [hmj, if_pos hz]
      refine ⟨fun _ => ?_, fun hf => ?_⟩
      · rw [if_pos ((u99_i h10 hmo).mpr hz), jup_r, if_pos (by decide)]
        refine ⟨_, rfl, fLk_t g1 (fLk_u μ1 (by omega) _), by rw [jup_r, hwy], ?_, ?_, ?_, ?_⟩
        · rw [jup_m (by decide)]; exact l1.1
        · rw [jup_m (by decide)]; exact l1.2.1
        · rw [jup_m (by decide)]; exact l1.2.2.1
        · rw [jup_m (by decide)]; exact l1.2.2.2
      · have hf : (mwy k w F (P + j) != 0) = false := hf
        rw [hwy] at hf
        cases hf
    · have hlt : m.getD j 10 < kn k := by
        rcases hmo with z | z
        · exact absurd z hz
        · exact z
      have hu : u99 (m.getD j 10) = ((m.getD j 10 : Nat) : Int) := if_neg hz
      have hst := mst_lt h10 hok (P + j)
      have hst : mst F (P + j) < 2 ^ kn k := hst
      have hla := mla_in hkn h10
      have hwy : mwy k w F (P + j) = rfs k w (mst F (P + j)) (mla F (P + j)) (m.getD j 10) := by
        unfold mwy
        rw [hmj, if_neg hz]
      have h2x := p2_le (show m.getD j 10 ≤ 10 by omega)
      rw [if_neg (fun z => hz ((u99_i h10 hmo).mp z)), hu, l1.2.2.1, l1.2.2.2, c_X12_refusal _ k1 w1 _ _ _ hst hla hlt, bI_r, ← hwy, jup_r]
      refine ⟨fun hp => ?_, fun hf => ?_⟩
      · have hp : (mwy k w F (P + j) != 0) = true := hp
        have : mwy k w F (P + j) ≠ 0 := by simpa using hp
        rw [if_pos (by omega)]
        refine ⟨_, rfl, fLk_t g1 (fLk_u μ1 (by omega) _), jup_r _ _ _ _, ?_, ?_, ?_, ?_⟩
        · rw [jup_m (by decide)]; exact l1.1
        · rw [jup_m (by decide)]; exact l1.2.1
        · rw [jup_m (by decide)]; exact l1.2.2.1
        · rw [jup_m (by decide)]; exact l1.2.2.2
      · have hf : (mwy k w F (P + j) != 0) = false := hf
        have h0 : mwy k w F (P + j) = 0 := by simpa using hf
        have hco := (hko.2.2.1 _ hlt).2.2.1
        have hcb := mco_b hko (show P + j ≤ 20 by omega) hkn
        rw [if_neg (by omega), gd_t (by omega), h0]
        -- the guests
        let μ2 : jM := jup (jup (jup (jup μ1 69 30 0) 69 33 (mst F (P + (j + 1)) : Int)) 69 34 ((m.getD j 10 : Nat) : Int)) 69 31 (mco k F (P + (j + 1)))
        have g2 : fLk μ2 μ := fLk_t g1 (fLk_t (fLk_u μ1 (by omega) _) (fLk_t (fLk_u _ (by omega) _) (fLk_t (fLk_u _ (by omega) _) (fLk_u _ (by omega) _))))
        have e1 : mst F (P + (j + 1)) = mst F (P + j) ||| 2 ^ m.getD j 10 := by
          rw [← hmj]
          exact mst_s (t := P + j) (by rw [hmj]; exact hz)
        have e2 : mco k F (P + (j + 1)) = mco k F (P + j) + (kco k (m.getD j 10) : Int) := by
          rw [← hmj]
          rfl
        obtain ⟨μ3, e3, g3, v30, v31, v32, v33, v34⟩ := lp_i (fun (g : Nat) (μ3 : jM) => EV (d + 3) T_X12_lookOn 2 [some (jR 69), some (jI i), some (jI j), some (jI (m.getD j 10 : Nat)), some (jI g)] [] μ3) (fun g μ3 => fLk μ3 μ ∧ μ3 69 30 = 0 ∧ μ3 69 31 = mco k F (P + (j + 1)) ∧ μ3 69 32 = ((mhu k F (P + j) ||| bm (fun g => khu k g (m.getD j 10)) g : Nat) : Int) ∧ μ3 69 33 = (mst F (P + (j + 1)) : Int) ∧ μ3 69 34 = ((m.getD j 10 : Nat) : Int)) (kg k) (fun g μ3 hg hI => by
          obtain ⟨g3, v30, v31, v32, v33, v34⟩ := hI
          have k3 := fLk_KR g3 hk
          have hb1 : mhu k F (P + j) < 2 ^ 6 := bm_lt' _ h6
          have hb2 : bm (fun g => khu k g (m.getD j 10)) g < 2 ^ 6 := bm_lt' _ (by omega)
          have hb3 : mhu k F (P + j) ||| bm (fun g => khu k g (m.getD j 10)) g < 2 ^ 6 := Nat.or_lt_two_pow hb1 hb2
          have h2g := p2_le (show g ≤ 6 by omega)
          have eb : mhu k F (P + j) ||| bm (fun g => khu k g (m.getD j 10)) (g + 1) = (mhu k F (P + j) ||| bm (fun g => khu k g (m.getD j 10)) g) ||| (if khu k g (m.getD j 10) then 2 ^ g else 0) := by
            rw [Nat.or_assoc]
            rfl
          show ∃ s', EV (d + 3) T_X12_lookOn 2 _ [] μ3 = _ ∧ _
          rw [e_X12_lookOn_2, k3.2.2.1, if_pos (by omega), c_X12_isHungry _ k3 g _ hg hlt, bI_r, w_s g (by omega), v32, shl_1 g (by omega)]
          cases hh : khu k g (m.getD j 10) with
          | false =>
            rw [hh, if_neg (by decide)] at eb
            have e0 := or_nn (mhu k F (P + j) ||| bm (fun g => khu k g (m.getD j 10)) g) 0 (by omega) (by decide)
            rw [z_f]
            refine ⟨_, rfl, fLk_t g3 (fLk_u _ (by omega) _), ?_, ?_, ?_, ?_, ?_⟩
            · rw [jup_m (by decide)]; exact v30
            · rw [jup_m (by decide)]; exact v31
            · rw [jup_r, eb]; exact e0
            · rw [jup_m (by decide)]; exact v33
            · rw [jup_m (by decide)]; exact v34
          | true =>
            rw [hh, if_pos rfl] at eb
            rw [z_t, or_nn _ _ (by omega) (by omega)]
            refine ⟨_, rfl, fLk_t g3 (fLk_u _ (by omega) _), ?_, ?_, ?_, ?_, ?_⟩
            · rw [jup_m (by decide)]; exact v30
            · rw [jup_m (by decide)]; exact v31
            · rw [jup_r, eb]
            · rw [jup_m (by decide)]; exact v33
            · rw [jup_m (by decide)]; exact v34) μ2 ⟨g2, by
              show jup (jup (jup (jup μ1 69 30 0) 69 33 _) 69 34 _) 69 31 _ 69 30 = 0
              rw [jup_m (by decide), jup_m (by decide), jup_m (by decide), jup_r], jup_r _ _ _ _, by
              show jup (jup (jup (jup μ1 69 30 0) 69 33 _) 69 34 _) 69 31 _ 69 32 = _
              rw [jup_m (by decide), jup_m (by decide), jup_m (by decide), jup_m (by decide), l1.2.1]
              show _ = ((mhu k F (P + j) ||| 0 : Nat) : Int)
              rw [Nat.or_zero], by
              show jup (jup (jup (jup μ1 69 30 0) 69 33 _) 69 34 _) 69 31 _ 69 33 = _
              rw [jup_m (by decide), jup_m (by decide), jup_r], by
              show jup (jup (jup (jup μ1 69 30 0) 69 33 _) 69 34 _) 69 31 _ 69 34 = _
              rw [jup_m (by decide), jup_r]⟩
        refine ⟨μ3, ?_, g3, v30, ⟨v31, ?_, v33, ?_⟩, fun x hx => ?_⟩
        · have r33 : jup μ1 69 30 0 69 33 = (mst F (P + j) : Int) := (jup_m (by decide)).trans l1.2.2.1
          have em : jup (jup (jup μ1 69 30 0) 69 33 (jor ((mst F (P + j) : Nat) : Int) (jshl 1 ((m.getD j 10 : Nat) : Int)))) 69 34 ((m.getD j 10 : Nat) : Int) = jup (jup (jup μ1 69 30 0) 69 33 (mst F (P + (j + 1)) : Int)) 69 34 ((m.getD j 10 : Nat) : Int) := by
            rw [shl_1 _ (by omega), or_nn _ _ (by omega) (by omega), e1]
          have r31 : jup (jup (jup μ1 69 30 0) 69 33 (mst F (P + (j + 1)) : Int)) 69 34 ((m.getD j 10 : Nat) : Int) 69 31 = mco k F (P + j) := by
            rw [jup_m (by decide), jup_m (by decide), jup_m (by decide), l1.1]
          have r72 : jup (jup (jup μ1 69 30 0) 69 33 (mst F (P + (j + 1)) : Int)) 69 34 ((m.getD j 10 : Nat) : Int) 72 ((m.getD j 10 : Nat) : Int) = (kco k (m.getD j 10) : Int) := by
            rw [jup_ne (by decide), jup_ne (by decide), jup_ne (by decide)]
            exact (k1.2.2.2.1 _ hlt).2.1
          rw [r33, em, r31, r72, w_id (by omega) (by omega), ← e2]
          refine Eq.trans e3 ?_
          show EV (d + 3) T_X12_lookOn 2 [some (jR 69), some (jI i), some (jI j), some (jI (m.getD j 10 : Nat)), some (jI (kg k))] [] μ3 = _
          rw [e_X12_lookOn_2, (fLk_KR g3 hk).2.2.1, if_neg (by omega), w_s j (by omega)]
        · rw [v32]
          congr 1
          apply Nat.eq_of_testBit_eq
          intro g
          unfold mhu
          rw [Nat.testBit_or, bm_tb, bm_tb, bm_tb]
          show _ = (decide (g < kg k) && (anb _ (P + j) || khu k g (F.getD (P + j) 10)))
          rw [hmj]
          cases decide (g < kg k) <;> simp
        · rw [v34, show P + (j + 1) = (P + j) + 1 from rfl, mla_s, hmj]
          exact (if_neg hz).symm
        · by_cases hxx : x = P + j
          · rw [hxx, hmj]
            exact hlt
          · exact hkn x (by omega)
  -- all of them
  have loop : ∀ n, n ≤ fs Pd m.length → ∃ μ1, EV (d + 3) T_X12_lookOn 1 [some (jR 69), some (jI i), some (jI 0), none, none] [] μ = EV (d + 3) T_X12_lookOn 1 [some (jR 69), some (jI i), some (jI n), none, none] [] μ1 ∧ fLk μ1 μ ∧ (0 < n → μ1 69 30 = 0) ∧ LkS μ1 k F (P + n) ∧ ∀ x, x < P + n → F.getD x 10 < kn k := by
    intro n
    induction n with
    | zero => exact fun _ => ⟨μ, rfl, fLk_r μ, fun h => absurd h (Nat.lt_irrefl 0), hls, hpre⟩
    | succ n ih =>
      intro hn
      obtain ⟨μ1, e1, g1, -, l1, kn1⟩ := ih (by omega)
      obtain ⟨μ2, e2, g2, v2, l2, kn2⟩ := (step n μ1 (by omega) g1 l1 kn1).2 (s2 n (by omega))
      exact ⟨μ2, e1.trans e2, g2, fun _ => v2, l2, kn2⟩
  obtain ⟨μ1, e1, g1, v1, l1, kn1⟩ := loop _ (Nat.le_refl _)
  rw [e_X12_lookOn]
  by_cases hlt : fs Pd m.length < m.length
  · obtain ⟨μ2, e2, g2, v2, l2⟩ := (step _ μ1 hlt g1 l1 kn1).1 (s3 hlt)
    refine ⟨μ2, e1.trans e2, g2, ?_, l2, kn1⟩
    show μ2 69 30 = if fs Pd m.length < m.length then _ else 0
    rw [if_pos hlt]
    exact v2
  · have hfl : fs Pd m.length = m.length := by omega
    have m1 : MRi μ1 i m := MRi_cg hm (g1.1 79 (by omega)) (g1.1 78 (by omega))
    refine ⟨μ1, e1.trans ?_, g1, ?_, l1, kn1⟩
    · show _ = rI (fs Pd m.length : Nat) μ1
      rw [e_X12_lookOn_1, gd_t (by omega), m1.2.1, hfl, if_neg (by omega), gd_t (by omega)]
    · show μ1 69 30 = if fs Pd m.length < m.length then _ else 0
      rw [if_neg hlt]
      exact v1 (by omega)
theorem c_X12_lookFromNothing (d : Nat) (μ : jM) (k : Kt) (F : List Nat) : ∃ μ', CL (d + 1) 253 [jR 69] μ = rV μ' ∧ fLk μ' μ ∧ LkS μ' k F 0 := by
  rw [e_X12_lookFromNothing]
  refine ⟨_, rfl, fLk_t (fLk_u μ (by omega) _) (fLk_t (fLk_u _ (by omega) _) (fLk_t (fLk_u _ (by omega) _) (fLk_t (fLk_u _ (by omega) _) (fLk_u _ (by omega) _)))), ?_, ?_, ?_, ?_⟩
  · rw [jup_m (by decide), jup_m (by decide), jup_m (by decide), jup_r]
    rfl
  · rw [jup_m (by decide), jup_m (by decide), jup_r]
    have : mhu k F 0 = 0 := bm_no (kg k) (fun _ _ => rfl)
    rw [this]
    rfl
  · rw [jup_m (by decide), jup_r]
    rfl
  · rw [jup_r]
    rfl
