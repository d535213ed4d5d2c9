/-! ## MENUS: DISHES, 10 for one that is not known -/
def isM (p : Nat) : Prop := p = 23 ∨ p = 52 ∨ p = 55 ∨ p = 58
def mcap (p : Nat) : Nat := if p = 23 then 20 else 10
theorem isM_f {p : Nat} (h : isM p) : KD p = 4 ∧ RF p 0 = p + 1 ∧ RF p 1 = p + 2 ∧ KD (p + 1) = 20 ∧ LN (p + 1) = mcap p ∧ KD (p + 2) = 20 ∧ LN (p + 2) = 9 := by
  rcases h with rfl | rfl | rfl | rfl <;> decide
def Mok (n : Nat) (m : List Nat) : Prop := ∀ x ∈ m, x = 10 ∨ x < n
def LAm (g : Int → Int) (m : List Nat) : Prop := ∀ i : Nat, i < m.length → g i = lno (m.getD i 10)
def MI (μ : jM) (p : Nat) (m : List Nat) : Prop := isM p ∧ m.length ≤ mcap p ∧ μ p 2 = (m.length : Int) ∧ LAm (μ (p + 1)) m
theorem MI_cg {μ μ' : jM} {p : Nat} {m : List Nat} (h : MI μ p m) (e1 : μ' p = μ p) (e2 : μ' (p + 1) = μ (p + 1)) : MI μ' p m := ⟨h.1, h.2.1, by rw [e1]; exact h.2.2.1, by rw [e2]; exact h.2.2.2⟩
theorem cb_a {q : Nat} {x y : Option jO} (h : KD q = 20) : (bif Nat.ble 20 (KD q) && Nat.ble (KD q) 27 then x else y) = x := by
  rw [h]
  rfl
theorem mcap_le (p : Nat) : mcap p ≤ 20 := by
  unfold mcap
  split <;> decide
theorem Mok_at {n : Nat} {m : List Nat} (h : Mok n m) (i : Nat) : m.getD i 10 = 10 ∨ m.getD i 10 < n := by
  rw [List.getD_eq_getElem?_getD]
  by_cases hi : i < m.length
  · rw [List.getElem?_eq_getElem hi]
    exact h _ (List.getElem_mem hi)
  · rw [List.getElem?_eq_none (by omega)]
    exact Or.inl rfl
theorem getD_hi {m : List Nat} {i : Nat} (h : m.length ≤ i) : m.getD i 10 = 10 := by
  rw [List.getD_eq_getElem?_getD, List.getElem?_eq_none h]
  rfl
theorem c_X4_size (d : Nat) {μ : jM} {p : Nat} {m : List Nat} (h : MI μ p m) : CL (d + 1) 58 [jR p] μ = rI (m.length : Int) μ := by
  rw [e_X4_size, cd_t (isM_f h.1).1, h.2.2.1]
theorem c_X4_at (d : Nat) {μ : jM} {p : Nat} {m : List Nat} (h : MI μ p m) (i : Nat) (hi : i < 100) : CL (d + 1) 59 [jR p, jI i] μ = rI (lno (m.getD i 10)) μ := by
  obtain ⟨h1, h2, h3, h4, h5, -, -⟩ := isM_f h.1
  have hl := h.2.1
  have hc := mcap_le p
  rw [e_X4_at]
  simp only [cd_t h1, h2, cb_a h4, cd_t h4, h5, h.2.2.1]
  rw [if_neg (by omega)]
  by_cases hz : i < m.length
  · rw [if_pos (by omega), if_pos (by omega), gd_t (by omega), h.2.2.2 i hz]
  · rw [if_neg (by omega), getD_hi (by omega)]
    rfl
theorem c_X4_atm (d : Nat) {μ : jM} {p : Nat} : CL (d + 1) 59 [jR p, jI (-1)] μ = rI (-1) μ := by
  rw [e_X4_at, if_pos (by decide)]
theorem c_X4_put (d : Nat) {μ : jM} {p : Nat} (hp : isM p) (i : Nat) (hi : i < mcap p) (v : Int) : CL (d + 1) 66 [jR p, jI i, jI v] μ = rV (jup μ (p + 1) i v) := by
  obtain ⟨h1, h2, h3, h4, h5, -, -⟩ := isM_f hp
  rw [e_X4_put]
  simp only [cd_t h1, h2, cb_a h4, cd_t h4, h5]
  rw [if_neg (by omega), if_pos (by omega), gd_t (by omega)]
/-- are all known -/
def whl (m : List Nat) : Bool := !anb (fun i => m.getD i 10 == 10) m.length
theorem lno_m1 {x : Nat} : lno x = -1 ↔ x = 10 := by
  unfold lno
  split <;> omega
theorem c_X4_isKnown (d : Nat) {μ : jM} {p : Nat} {m : List Nat} (h : MI μ p m) : CL (d + 2) 60 [jR p] μ = rI (if whl m then 1 else 0) μ := by
  have h1 := (isM_f h.1).1
  have hl := h.2.1
  have hc := mcap_le p
  have step : ∀ i : Nat, i < m.length → EV (d + 1) T_X4_isKnown 1 [some (jR p), some (jI i)] [] μ = if m.getD i 10 == 10 then rI 0 μ else EV (d + 1) T_X4_isKnown 1 [some (jR p), some (jI (i + 1 : Nat))] [] μ := by
    intro i hi
    rw [e_X4_isKnown_1]
    simp only [cd_t h1, h.2.2.1]
    rw [if_pos (by omega), c_X4_at _ h i (by omega), bI_r, w_s i (by omega)]
    by_cases hz : m.getD i 10 = 10
    · rw [if_pos (lno_m1.mpr hz), gd_t (by decide), hz]
      rfl
    · have : (m.getD i 10 == 10) = false := by simpa using hz
      rw [if_neg (fun z => hz (lno_m1.mp z)), this]
      rfl
  rw [e_X4_isKnown]
  refine (lp_fs (fun i : Nat => EV (d + 1) T_X4_isKnown 1 [some (jR p), some (jI i)] [] μ) (fun i => m.getD i 10 == 10) m.length (fun i hi hp _ => ?_)).trans ?_
  · rw [step i hi, hp]
    rfl
  · obtain ⟨f1, f2, f3⟩ := fs_spec (fun i => m.getD i 10 == 10) m.length
    unfold whl
    cases ha : anb (fun i => m.getD i 10 == 10) m.length with
    | true =>
      have hlt := (fs_anb _ _).mpr ha
      rw [step _ hlt, f3 hlt]
      rfl
    | false =>
      have hnlt : ¬ fs (fun i => m.getD i 10 == 10) m.length < m.length := fun z => by
        rw [(fs_anb _ _).mp z] at ha
        cases ha
      have e8 : fs (fun i => m.getD i 10 == 10) m.length = m.length := by omega
      rw [e8, e_X4_isKnown_1]
      simp only [cd_t h1, h.2.2.1]
      rw [if_neg (by omega), gd_t (by decide)]
      rfl
theorem c_X4_clear (d : Nat) {μ : jM} {p : Nat} (hp : isM p) : ∃ μ', CL (d + 1) 61 [jR p] μ = rV μ' ∧ (∀ q, q ≠ p → μ' q = μ q) ∧ MI μ' p [] := by
  rw [e_X4_clear, cd_t (isM_f hp).1]
  exact ⟨_, rfl, fun q hq => jup_ne hq, hp, Nat.zero_le _, jup_r _ _ _ _, fun i hi => absurd hi (Nat.not_lt_zero i)⟩
theorem LAm_snoc {g : Int → Int} {r : List Nat} {v : Nat} (h : LAm g r) : LAm (fun j => if j = (r.length : Int) then lno v else g j) (r ++ [v]) := by
  intro i hi
  rw [List.length_append, List.length_singleton] at hi
  show (if (i : Int) = (r.length : Int) then lno v else g i) = _
  by_cases h2 : i = r.length
  · subst h2
    rw [if_pos rfl, List.getD_eq_getElem?_getD, List.getElem?_append_right (Nat.le_refl _), Nat.sub_self]
    rfl
  · rw [if_neg (by omega), h i (by omega), List.getD_eq_getElem?_getD, List.getD_eq_getElem?_getD, List.getElem?_append_left (by omega)]
theorem take_snoc (m : List Nat) {i : Nat} (hi : i < m.length) : m.take (i + 1) = m.take i ++ [m.getD i 10] := by
  rw [List.take_succ, List.getD_eq_getElem?_getD, List.getElem?_eq_getElem hi]
  rfl
theorem c_X4_addAll (d : Nat) {μ : jM} {p q : Nat} {m m2 : List Nat} (h : MI μ p m) (h2 : MI μ q m2) (hne : p ≠ q) (hlen : m.length + m2.length ≤ mcap p) : ∃ μ', CL (d + 2) 62 [jR p, jR q] μ = rV μ' ∧ (∀ r, r ≠ p → r ≠ p + 1 → μ' r = μ r) ∧ MI μ' p (m ++ m2) := by
  obtain ⟨h1, hr, -, h4, h5, -, -⟩ := isM_f h.1
  have hq1 := (isM_f h2.1).1
  have n1 : q ≠ p + 1 := by rcases h.1 with rfl | rfl | rfl | rfl <;> rcases h2.1 with rfl | rfl | rfl | rfl <;> decide
  have n2 : q + 1 ≠ p := by rcases h.1 with rfl | rfl | rfl | rfl <;> rcases h2.1 with rfl | rfl | rfl | rfl <;> decide
  have hc := mcap_le p
  obtain ⟨μ', e1, f1, i1⟩ := lp_i (fun (i : Nat) (μ1 : jM) => EV (d + 1) T_X4_addAll 1 [some (jR p), some (jR q), some (jI i)] [] μ1) (fun i μ1 => (∀ r, r ≠ p → r ≠ p + 1 → μ1 r = μ r) ∧ MI μ1 p (m ++ m2.take i)) m2.length (fun i μ1 hi hI => by
    obtain ⟨f1, i1⟩ := hI
    have g2 : MI μ1 q m2 := MI_cg h2 (f1 q (Ne.symm hne) n1) (f1 (q + 1) n2 (by omega))
    have hl1 : (m ++ m2.take i).length = m.length + i := by
      rw [List.length_append, List.length_take]
      omega
    have i3 := i1.2.2.1
    rw [hl1] at i3
    show ∃ s', EV (d + 1) T_X4_addAll 1 _ [] μ1 = _ ∧ _
    rw [e_X4_addAll_1]
    simp only [cd_t h1, cd_t hq1, hr, cb_a h4, cd_t h4, h5, g2.2.2.1, i3]
    rw [if_pos (by omega), if_pos (by omega), c_X4_at _ g2 i (by omega), bI_r, gd_t (by omega), jup_n (show p ≠ p + 1 by omega), i3, w_s i (by omega), w_s (m.length + i) (by omega)]
    refine ⟨_, rfl, fun r r1 r2 => by rw [jup_ne r1, jup_ne r2]; exact f1 r r1 r2, i1.1, ?_, ?_, ?_⟩
    · rw [List.length_append, List.length_take]
      omega
    · rw [jup_r, List.length_append, List.length_take]
      congr 1
      omega
    · rw [jup_ne (by omega), jup_eq, take_snoc m2 hi, ← List.append_assoc]
      have := LAm_snoc (v := m2.getD i 10) i1.2.2.2
      rw [hl1] at this
      exact this) μ ⟨fun _ _ _ => rfl, by rw [List.take_zero, List.append_nil]; exact h⟩
  rw [List.take_length] at i1
  refine ⟨μ', ?_, f1, i1⟩
  rw [e_X4_addAll]
  refine Eq.trans e1 ?_
  have g2 : MI μ' q m2 := MI_cg h2 (f1 q (Ne.symm hne) n1) (f1 (q + 1) n2 (by omega))
  show EV (d + 1) T_X4_addAll 1 _ [] μ' = _
  rw [e_X4_addAll_1]
  simp only [cd_t hq1, g2.2.2.1]
  rw [if_neg (by omega)]
/-- the set of the first places -/
def mst (m : List Nat) : Nat → Nat
  | 0 => 0
  | i + 1 => mst m i ||| (if m.getD i 10 = 10 then 0 else 2 ^ m.getD i 10)
def mla (m : List Nat) (i : Nat) : Nat := if i = 0 then 10 else m.getD (i - 1) 10
theorem mst_lt {n : Nat} (hn : n ≤ 10) {m : List Nat} (h : Mok n m) : ∀ i, mst m i < 2 ^ n
  | 0 => Nat.two_pow_pos n
  | i + 1 => by
    refine Nat.or_lt_two_pow (mst_lt hn h i) ?_
    split
    · exact Nat.two_pow_pos n
    · rcases Mok_at h i with z | z
      · rename_i hz
        exact absurd z hz
      · exact Nat.pow_lt_pow_right (by decide) z
theorem Mok_10 {n : Nat} (hn : n ≤ 10) {m : List Nat} (h : Mok n m) : Mok 10 m := fun x hx => by
  rcases h x hx with z | z
  · exact Or.inl z
  · exact Or.inr (by omega)
theorem c_X4_setTill (d : Nat) {μ : jM} {p : Nat} {m : List Nat} (h : MI μ p m) (hm : Mok 10 m) (j : Nat) (hj : j < 100) : CL (d + 2) 69 [jR p, jI j] μ = rI (mst m j : Nat) μ := by
  have h1 := (isM_f h.1).1
  rw [e_X4_setTill]
  refine (lp_0 (fun i : Nat => EV (d + 1) T_X4_setTill 1 [some (jR p), some (jI j), some (jI (mst m i : Nat)), some (jI i)] [] μ) j (fun i hi => ?_)).trans ?_
  · have hs := mst_lt (Nat.le_refl 10) hm i
    have e0 := or_nn (mst m i) 0 (by omega) (by decide)
    rw [e_X4_setTill_1]
    simp only [cd_t h1]
    rw [if_pos (by omega), c_X4_at _ h i (by omega), bI_r, w_s i (by omega)]
    show _ = EV (d + 1) T_X4_setTill 1 [some (jR p), some (jI j), some (jI ((mst m i ||| (if m.getD i 10 = 10 then 0 else 2 ^ m.getD i 10) : Nat))), some (jI (i + 1 : Nat))] [] μ
    by_cases hz : m.getD i 10 = 10
    · rw [if_pos (lno_m1.mpr hz), if_pos hz, ← e0]
      rfl
    · have hlt : m.getD i 10 < 10 := by
        rcases Mok_at hm i with z | z
        · exact absurd z hz
        · exact z
      have h2 := p2_le (show m.getD i 10 ≤ 10 by omega)
      rw [if_neg (fun z => hz (lno_m1.mp z)), if_neg hz, c_X4_at _ h i (by omega), bI_r, show lno (m.getD i 10) = ((m.getD i 10 : Nat) : Int) from if_neg hz, shl_1 _ (by omega), or_nn _ _ (by omega) (by omega)]
  · rw [e_X4_setTill_1, if_neg (by omega)]
/-- why a place of a MENU is not lawful -/
def mwy (k : Kt) (w : Lw) (m : List Nat) (i : Nat) : Int := if m.getD i 10 = 10 then -1 else rfs k w (mst m i) (mla m i) (m.getD i 10)
theorem mla_ok {n : Nat} {m : List Nat} (h : Mok n m) (i : Nat) : mla m i = 10 ∨ mla m i < n := by
  unfold mla
  split
  · exact Or.inl rfl
  · exact Mok_at h _
theorem c_X4_whyAt (d : Nat) {μ : jM} {p r : Nat} {m : List Nat} {k : Kt} {w : Lw} (h : MI μ p m) (hk : KI μ k) (hw : LI μ r w) (hm : Mok (kn k) m) (i : Nat) (hi : i < m.length) : CL (d + 5) 68 [jR p, jI i, jR 3, jR r] μ = rI (mwy k w m i) μ := by
  have h1 := (isM_f h.1).1
  have hl := h.2.1
  have hc := mcap_le p
  have h10 := hk.1.1
  have hr := (isL_f hw.1).1
  rw [e_X4_whyAt]
  simp only [cd_t h1, cd_t hr, h.2.2.1]
  rw [if_neg (by omega), if_pos (by omega), c_X4_at _ h i (by omega), bI_r]
  unfold mwy
  by_cases hz : m.getD i 10 = 10
  · rw [if_pos (lno_m1.mpr hz), if_pos hz]
  · have hlt : m.getD i 10 < kn k := by
      rcases Mok_at hm i with z | z
      · exact absurd z hz
      · exact z
    have hst := mst_lt h10 hm i
    have h2 := p2_le h10
    have hla := mla_ok hm i
    have at' : ∀ d, CL (d + 1) 59 [jR p, jI (w32 ((i : Int) - 1))] μ = rI (lno (mla m i)) μ := fun d => by
      unfold mla
      by_cases hi0 : i = 0
      · rw [if_pos hi0, hi0]
        exact c_X4_atm d
      · have e : w32 ((i : Int) - 1) = ((i - 1 : Nat) : Int) := by
          rw [w_id (by omega) (by omega)]
          omega
        rw [if_neg hi0, e, c_X4_at _ h _ (by omega)]
    rw [if_neg (fun z => hz (lno_m1.mp z)), if_neg hz, c_X4_setTill _ h (Mok_10 h10 hm) i (by omega), bI_r, at', bI_r, show lno (m.getD i 10) = ((m.getD i 10 : Nat) : Int) from if_neg hz, c_X2_refusal _ hw hk _ _ _ (by omega) hla hlt, bI_r]
def mft (k : Kt) (w : Lw) (m : List Nat) : Nat := fs (fun i => mwy k w m i != 0) m.length
theorem c_X4_fault (d : Nat) {μ : jM} {p r : Nat} {m : List Nat} {k : Kt} {w : Lw} (h : MI μ p m) (hk : KI μ k) (hw : LI μ r w) (hm : Mok (kn k) m) : CL (d + 6) 67 [jR p, jR 3, jR r] μ = rI (if mft k w m < m.length then ((mft k w m : Nat) : Int) else -1) μ := by
  have h1 := (isM_f h.1).1
  have hl := h.2.1
  have hc := mcap_le p
  have step : ∀ i : Nat, i < m.length → EV (d + 5) T_X4_fault 1 [some (jR p), some (jR 3), some (jR r), some (jI i)] [] μ = if mwy k w m i != 0 then rI i μ else EV (d + 5) T_X4_fault 1 [some (jR p), some (jR 3), some (jR r), some (jI (i + 1 : Nat))] [] μ := by
    intro i hi
    rw [e_X4_fault_1]
    simp only [cd_t h1, h.2.2.1]
    rw [if_pos (by omega), c_X4_whyAt _ h hk hw hm i hi, bI_r, w_s i (by omega)]
    by_cases hz : mwy k w m i = 0
    · have : (mwy k w m i != 0) = false := by simpa using hz
      rw [if_pos hz, this]
      rfl
    · have : (mwy k w m i != 0) = true := by simpa using hz
      rw [if_neg hz, this]
      rfl
  rw [e_X4_fault]
  refine (lp_fs (fun i : Nat => EV (d + 5) T_X4_fault 1 [some (jR p), some (jR 3), some (jR r), some (jI i)] [] μ) (fun i => mwy k w m i != 0) m.length (fun i hi hp _ => ?_)).trans ?_
  · rw [step i hi, hp]
    rfl
  · obtain ⟨f1, f2, f3⟩ := fs_spec (fun i => mwy k w m i != 0) m.length
    show EV (d + 5) T_X4_fault 1 [some (jR p), some (jR 3), some (jR r), some (jI (mft k w m : Nat))] [] μ = _
    have f3 : mft k w m < m.length → (mwy k w m (mft k w m) != 0) = true := f3
    by_cases hlt : mft k w m < m.length
    · rw [step _ hlt, if_pos (f3 hlt), if_pos hlt]
    · have f1 : mft k w m ≤ m.length := f1
      have e8 : mft k w m = m.length := by omega
      rw [if_neg hlt, e8, e_X4_fault_1]
      simp only [cd_t h1, h.2.2.1]
      rw [if_neg (by omega)]
/-- what the first places cost -/
def mco (k : Kt) (m : List Nat) (i : Nat) : Int := sm (fun j => (kco k (m.getD j 10) : Int)) i
theorem c_X4_costTill (d : Nat) {μ : jM} {p : Nat} {m : List Nat} {k : Kt} (h : MI μ p m) (hk : KI μ k) (j : Nat) (hj : j ≤ m.length) (hm : ∀ i, i < j → m.getD i 10 < kn k) : CL (d + 3) 70 [jR p, jI j, jR 3] μ = rI (mco k m j) μ := by
  have h1 := (isM_f h.1).1
  have hl := h.2.1
  have hc := mcap_le p
  rw [e_X4_costTill]
  refine (lp_0 (fun i : Nat => EV (d + 2) T_X4_costTill 1 [some (jR p), some (jI j), some (jR 3), some (jI (mco k m i)), some (jI i)] [] μ) j (fun i hi => ?_)).trans ?_
  · have hx := hm i hi
    have hco := (hk.1.2.2.1 _ hx).2.2.1
    have h10 := hk.1.1
    have hb := sm_b (f := fun j => (kco k (m.getD j 10) : Int)) (B := 99) i (fun q hq => by
      have := (hk.1.2.2.1 _ (hm q (by omega))).2.2.1
      show -99 ≤ (kco k (m.getD q 10) : Int) ∧ (kco k (m.getD q 10) : Int) ≤ 99
      omega)
    have hib : (i : Int) * 99 ≤ 20 * 99 := by omega
    have e : mco k m (i + 1) = mco k m i + (kco k (m.getD i 10) : Int) := rfl
    have hb : -((i : Int) * 99) ≤ mco k m i ∧ mco k m i ≤ (i : Int) * 99 := hb
    rw [e_X4_costTill_1]
    simp only [cd_t h1]
    rw [if_pos (by omega), c_X4_at _ h i (by omega), bI_r, show lno (m.getD i 10) = ((m.getD i 10 : Nat) : Int) from if_neg (by omega), c_X1_costOf _ hk _ hx, bI_r, w_s i (by omega), e, w_id (by omega) (by omega)]
  · rw [e_X4_costTill_1, if_neg (by omega)]
/-- who goes hungry at the first places -/
def mhu (k : Kt) (m : List Nat) (i : Nat) : Nat := bm (fun g => anb (fun j => khu k g (m.getD j 10)) i) (kg k)
theorem c_X4_hungryTill (d : Nat) {μ : jM} {p : Nat} {m : List Nat} {k : Kt} (h : MI μ p m) (hk : KI μ k) (j : Nat) (hj : j ≤ m.length) (hm : ∀ i, i < j → m.getD i 10 < kn k) : CL (d + 5) 71 [jR p, jI j, jR 3] μ = rI (mhu k m j : Nat) μ := by
  have h1 := (isM_f h.1).1
  have hl := h.2.1
  have hc := mcap_le p
  have h6 := hk.1.2.1
  have e0 : mhu k m 0 = 0 := bm_no (kg k) (fun _ _ => rfl)
  rw [e_X4_hungryTill]
  refine Eq.trans ?_ ((lp_0 (fun i : Nat => EV (d + 4) T_X4_hungryTill 1 [some (jR p), some (jI j), some (jR 3), some (jI (mhu k m i : Nat)), some (jI i)] [] μ) j (fun i hi => ?_)).trans ?_)
  · show _ = EV (d + 4) T_X4_hungryTill 1 [some (jR p), some (jI j), some (jR 3), some (jI (mhu k m 0 : Nat)), some (jI (0 : Nat))] [] μ
    rw [e0]
    rfl
  · have hx := hm i hi
    have h10 := hk.1.1
    have hb : mhu k m i < 2 ^ 6 := bm_lt' _ h6
    have hb2 : bm (fun g => khu k g (m.getD i 10)) (kg k) < 2 ^ 6 := bm_lt' _ h6
    rw [e_X4_hungryTill_1]
    simp only [cd_t h1]
    rw [if_pos (by omega), c_X4_at _ h i (by omega), bI_r, show lno (m.getD i 10) = ((m.getD i 10 : Nat) : Int) from if_neg (by omega), c_X1_hungryAt _ hk _ hx, bI_r, w_s i (by omega), or_nn _ _ (by omega) (by omega)]
    have e : mhu k m i ||| bm (fun g => khu k g (m.getD i 10)) (kg k) = mhu k m (i + 1) := by
      apply Nat.eq_of_testBit_eq
      intro g
      unfold mhu
      rw [Nat.testBit_or, bm_tb, bm_tb, bm_tb]
      show _ = (decide (g < kg k) && (anb _ i || khu k g (m.getD i 10)))
      cases decide (g < kg k) <;> simp
    rw [e]
  · rw [e_X4_hungryTill_1, if_neg (by omega)]
