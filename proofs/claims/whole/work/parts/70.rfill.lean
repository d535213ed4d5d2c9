/-! ## the reference: holes filled -/
theorem c_X12_menuAt (d : Nat) {μ : jM} (i : Nat) (hi : i < 3) {m : List Nat} (hm : MRi μ i m) (s : Nat) (hs : s < 1024) (hp : pc s < m.length) : CL (d + 2) 297 [jR 69, jI i, jI s] μ = rI (u99 (m.getD (pc s) 10)) μ := by
  have hl := hm.1
  rw [e_X12_menuAt, c_bc _ _ _ (by omega), bI_r, ix10 i (pc s) hi (by omega), gd_t (by omega), hm.2.2 _ hp]
theorem u99_x {n x y : Nat} (hn : n ≤ 10) (h : x = 10 ∨ x < n) (hy : y < 10) : (u99 x = (y : Int)) ↔ x = y := by
  unfold u99
  split <;> omega
theorem c_X12_isAsked (d : Nat) {μ : jM} (i : Nat) (hi : i < 3) {m : List Nat} (hm : MRi μ i m) {n : Nat} (hn : n ≤ 10) (hok : Mok n m) (s : Nat) (hs : s < 1024) (hp : pc s < m.length) (x : Nat) (hx : x < 10) : CL (d + 3) 301 [jR 69, jI i, jI s, jI x] μ = rI (if Am m (pc s) x then 1 else 0) μ := by
  have hx1 := u99_i hn (Mok_at hok (pc s))
  have hx2 := u99_x hn (Mok_at hok (pc s)) hx
  rw [e_X12_isAsked, c_X12_menuAt _ i hi hm s hs hp, bI_r]
  unfold Am
  by_cases h1 : m.getD (pc s) 10 = 10
  · rw [if_pos (hx1.mpr h1), gd_t (by decide), h1]
    rfl
  · have e1 : (m.getD (pc s) 10 == 10) = false := by simpa using h1
    rw [if_neg (fun z => h1 (hx1.mp z)), e1, Bool.false_or]
    by_cases h2 : m.getD (pc s) 10 = x
    · have e2 : (m.getD (pc s) 10 == x) = true := by simpa using h2
      rw [if_pos (hx2.mpr h2), gd_t (by decide), e2]
      rfl
    · have e2 : (m.getD (pc s) 10 == x) = false := by simpa using h2
      rw [if_neg (fun z => h2 (hx2.mp z)), gd_t (by decide), e2]
      rfl
def tenp : Nat → Int
  | 0 => 1
  | r + 1 => 10 * tenp r
theorem nbI_le (k : Kt) (w : Lw) (A : Ap) : ∀ r i s l, nbI k w A i r s l ≤ tenp r
  | 0, _, _, _ => Int.le_refl 1
  | r + 1, i, s, l => by
    have h := sm_b (f := fun x => if stp k w A i s l x then nbI k w A (i + 1) r (s ||| 2 ^ x) x else 0) (B := tenp r) 10 (fun x _ => by
      have h1 := nbI_le k w A r (i + 1) (s ||| 2 ^ x) x
      have h2 := nbI_ge k w A r (i + 1) (s ||| 2 ^ x) x
      show -tenp r ≤ (if stp k w A i s l x then nbI k w A (i + 1) r (s ||| 2 ^ x) x else 0) ∧ (if stp k w A i s l x then nbI k w A (i + 1) r (s ||| 2 ^ x) x else 0) ≤ tenp r
      split <;> omega)
    exact h.2
theorem tenp_le : ∀ r, r < 11 → tenp r ≤ 10000000000 := by decide
theorem nbI_b {k : Kt} (w : Lw) (A : Ap) {r : Nat} (hr : r ≤ 10) (i s l : Nat) : 0 ≤ nbI k w A i r s l ∧ nbI k w A i r s l ≤ 10000000000 := by
  have h1 := nbI_le k w A r i s l
  have h2 := tenp_le r (by omega)
  exact ⟨nbI_ge k w A r i s l, by omega⟩
theorem c_X12_findFills (d : Nat) {μ : jM} {k : Kt} {w : Lw} (hk : KR μ k) (hw : LR μ w) (i : Nat) (hi : i < 3) {m : List Nat} (hm : MRi μ i m) (hok : Mok (kn k) m) : ∃ μ', CL (d + 5) 300 [jR 69, jI i] μ = rL (nbI k w (Am m) 0 m.length 0 10) μ' ∧ (∀ q, q ≠ 93 → μ' q = μ q) ∧ ∀ s l, Stt k s l → pc s ≤ m.length → μ' 93 ((11 * s + l : Nat) : Int) = nbI k w (Am m) (pc s) (m.length - pc s) s l := by
  have hko := hk.1
  have h10 := hko.1
  have hN := p2_le h10
  have hl := hm.1
  let B : Nat → Nat → Int := fun s l => nbI k w (Am m) (pc s) (m.length - pc s) s l
  have pics : ∀ μ1 : jM, (∀ q, q ≠ 93 → μ1 q = μ q) → KR μ1 k ∧ LR μ1 w ∧ MRi μ1 i m := fun μ1 f => ⟨KR_cg hk (fun q _ _ => f q (by omega)) (by rw [f 69 (by decide)]) (by rw [f 69 (by decide)]), LR_cg hw (f 70 (by decide)) (by rw [f 69 (by decide)]) (by rw [f 69 (by decide)]) (by rw [f 69 (by decide)]), MRi_cg hm (f 79 (by decide)) (f 78 (by decide))⟩
  let J : Nat → Nat → jM → Prop := fun a j μ1 => (∀ q, q ≠ 93 → μ1 q = μ q) ∧ ∀ s l, Stt k s l → pc s ≤ m.length → (a < s ∨ s = a ∧ ∃ j', j' < j ∧ l = lx j') → μ1 93 ((11 * s + l : Nat) : Int) = B s l
  -- a state's sum
  have l3 : ∀ a j, Stt k a (lx j) → j ≤ kn k → pc a ≤ m.length → ∀ μ1, J a j μ1 → ∀ v0 : Int, v0 = (if pc a = m.length then 1 else 0) → EV (d + 4) T_X12_findFills 3 [some (jR 69), some (jI i), some (jI (m.length : Nat)), some (jI a), some (jI ((j : Int) - 1)), some (jL v0), none, some (jI 0)] [] μ1 = EV (d + 4) T_X12_findFills 2 [some (jR 69), some (jI i), some (jI (m.length : Nat)), some (jI a), some (jI (((j + 1 : Nat) : Int) - 1)), none, none, none] [] (jup μ1 93 ((11 * a + lx j : Nat) : Int) (B a (lx j))) := by
    intro a j hst hj hpa μ1 hJ v0 hv0
    have ha := hst.1
    have hjx := lx_le hj h10
    obtain ⟨hk1, hw1, hm1⟩ := pics μ1 hJ.1
    by_cases hfull : pc a = m.length
    · have hB : B a (lx j) = 1 := by
        show nbI k w (Am m) (pc a) (m.length - pc a) a (lx j) = 1
        rw [show m.length - pc a = 0 by omega]
        rfl
      rw [if_pos hfull] at hv0
      rw [e_X12_findFills_3, hk1.2.1, hB, hv0]
      have fin : bI (CL (d + 4) 260 [jI a, jI ((j : Int) - 1)] μ1) (fun x1 μ1 => gd (0 ≤ x1 ∧ x1 < 11264) (EV (d + 4) T_X12_findFills 2 [some (jR 69), some (jI i), some (jI (m.length : Nat)), some (jI a), some (jI (w32 (((j : Int) - 1) + 1))), none, none, none] [] (jup μ1 93 x1 1))) = EV (d + 4) T_X12_findFills 2 [some (jR 69), some (jI i), some (jI (m.length : Nat)), some (jI a), some (jI (((j + 1 : Nat) : Int) - 1)), none, none, none] [] (jup μ1 93 ((11 * a + lx j : Nat) : Int) 1) := by
        rw [x_place _ _ a j (by omega) (by omega), bI_r, gd_t (by omega), x_inc _ (by omega)]
      by_cases h0 : (0 : Int) < kn k
      · rw [if_pos h0, c_bc _ _ _ (by omega), bI_r, if_neg (by omega)]
        exact fin
      · rw [if_neg h0]
        exact fin
    · rw [if_neg hfull] at hv0
      obtain ⟨r, hr⟩ : ∃ r, m.length - pc a = r + 1 := ⟨m.length - pc a - 1, by omega⟩
      let f : Nat → Int := fun x => if stp k w (Am m) (pc a) a (lx j) x then nbI k w (Am m) (pc a + 1) r (a ||| 2 ^ x) x else 0
      have hf : ∀ x, 0 ≤ f x ∧ f x ≤ 10000000000 := fun x => by
        have := nbI_b (k := k) w (Am m) (r := r) (by omega) (pc a + 1) (a ||| 2 ^ x) x
        show 0 ≤ (if _ then _ else (0 : Int)) ∧ (if _ then _ else (0 : Int)) ≤ 10000000000
        split <;> omega
      have hB : B a (lx j) = sm f (kn k) := by
        show nbI k w (Am m) (pc a) (m.length - pc a) a (lx j) = _
        rw [hr]
        show sm f 10 = _
        refine sm_hi h10 (fun x h1 _ => ?_)
        show (if stp k w (Am m) (pc a) a (lx j) x then _ else (0 : Int)) = 0
        unfold stp
        rw [decide_eq_false (by omega), Bool.false_and]
        rfl
      have run := lp_0 (fun x : Nat => EV (d + 4) T_X12_findFills 3 [some (jR 69), some (jI i), some (jI (m.length : Nat)), some (jI a), some (jI ((j : Int) - 1)), some (jL (sm f x)), none, some (jI x)] [] μ1) (kn k) (fun x hx => by
        have h2x := p2_le (show x ≤ 10 by omega)
        have e : sm f (x + 1) = sm f x + f x := rfl
        have hfx : f x = if (decide (x < kn k) && (Am m (pc a) x && may k w a (lx j) x)) then nbI k w (Am m) (pc a + 1) r (a ||| 2 ^ x) x else 0 := rfl
        rw [decide_eq_true hx, Bool.true_and] at hfx
        have hsb := sm_b (f := f) (B := 10000000000) x (fun y _ => by have := hf y; omega)
        have hxb : (x : Int) * 10000000000 ≤ 10 * 10000000000 := by omega
        have hfb := hf x
        rw [e_X12_findFills_3, hk1.2.1, if_pos (by omega), c_bc _ _ _ (by omega), bI_r, if_pos (by omega), c_X12_isAsked _ i hi hm1 h10 hok a (by omega) (by omega) x (by omega), bI_r, w_s x (by omega), e, hfx]
        cases hA : Am m (pc a) x with
        | false =>
          rw [z_f, Bool.false_and, if_neg (by decide), Int.add_zero]
        | true =>
          rw [z_t, x_may _ hk1 hw1 a j x (by omega) hst hx, bI_r, Bool.true_and]
          cases hmy : may k w a (lx j) x with
          | false =>
            rw [z_f, if_neg (by decide), Int.add_zero]
          | true =>
            have hst2 : stp k w (Am m) (pc a) a (lx j) x = true := by
              unfold stp
              rw [decide_eq_true hx, hA, hmy]
              rfl
            obtain ⟨hS2, hpc⟩ := stp_Sok hko ha hst2
            have hlt := hS2.1
            have hgt := or_gt (may_nb hmy)
            have hv := hJ.2 _ _ (S_ist hko hS2) (by omega) (Or.inl hgt)
            have hv : μ1 93 ((11 * (a ||| 2 ^ x) + x : Nat) : Int) = nbI k w (Am m) (pc (a ||| 2 ^ x)) (m.length - pc (a ||| 2 ^ x)) (a ||| 2 ^ x) x := hv
            rw [hpc, show m.length - (pc a + 1) = r by omega] at hv
            have hnb := nbI_b (k := k) w (Am m) (r := r) (by omega) (pc a + 1) (a ||| 2 ^ x) x
            rw [z_t, shl_1 _ (by omega), or_nn a _ (by omega) (by omega), d_place _ _ _ x (by omega) (by omega), bI_r, gd_t (by omega), hv, if_pos rfl, w64_id (by omega) (by omega)])
      rw [hv0]
      refine Eq.trans run ?_
      rw [e_X12_findFills_3, hk1.2.1, if_neg (by omega), x_place _ _ a j (by omega) (by omega), bI_r, gd_t (by omega), x_inc _ (by omega), hB]
  have l2 : ∀ a, a < 2 ^ kn k → pc a ≤ m.length → ∀ μ1, J a 0 μ1 → ∃ μ2, EV (d + 4) T_X12_findFills 2 [some (jR 69), some (jI i), some (jI (m.length : Nat)), some (jI a), some (jI (-1)), none, none, none] [] μ1 = EV (d + 4) T_X12_findFills 1 [some (jR 69), some (jI i), some (jI (m.length : Nat)), some (jI ((a : Int) - 1)), none, none, none, none] [] μ2 ∧ J a (kn k + 1) μ2 := by
    intro a ha hpa μ1 hJ
    obtain ⟨μ2, e2, j2⟩ := lp_i (fun (j : Nat) (μ1 : jM) => EV (d + 4) T_X12_findFills 2 [some (jR 69), some (jI i), some (jI (m.length : Nat)), some (jI a), some (jI ((j : Int) - 1)), none, none, none] [] μ1) (fun j μ1 => J a j μ1) (kn k + 1) (fun j μ1 hj hJ => by
      obtain ⟨hk1, hw1, hm1⟩ := pics μ1 hJ.1
      have hjx := lx_le (show j ≤ kn k by omega) h10
      show ∃ s', EV (d + 4) T_X12_findFills 2 _ [] μ1 = _ ∧ _
      rw [e_X12_findFills_2, hk1.2.1, if_pos (by omega), x_isState _ _ a j (by omega) (by omega), bI_r]
      cases hi2 : ist a (lx j) with
      | false =>
        rw [z_f, x_inc _ (by omega)]
        refine ⟨μ1, rfl, hJ.1, fun s l hs hp hc => hJ.2 s l hs hp ?_⟩
        rcases hc with z | ⟨z, j', z2, z3⟩
        · exact Or.inl z
        · refine Or.inr ⟨z, j', ?_, z3⟩
          by_cases hjj : j' = j
          · rw [hjj] at z3
            have h5 := hs.2.2
            rw [z, z3, hi2] at h5
            cases h5
          · omega
      | true =>
        have hst : Stt k a (lx j) := ⟨ha, lx_kn hj, hi2⟩
        have hjk : j ≤ kn k := by omega
        have go : J a (j + 1) (jup μ1 93 ((11 * a + lx j : Nat) : Int) (B a (lx j))) := ⟨fun q hq => (jup_ne hq).trans (hJ.1 q hq), fun s l hs hp hc => by
          have hl := Sok_10 hko (ist_S hko hs)
          rw [tab_up hjx hl]
          by_cases h1 : s = a ∧ l = lx j
          · rw [if_pos h1, h1.1, h1.2]
          · rw [if_neg h1]
            refine hJ.2 s l hs hp ?_
            rcases hc with z | ⟨z, j', z2, z3⟩
            · exact Or.inl z
            · refine Or.inr ⟨z, j', ?_, z3⟩
              by_cases hjj : j' = j
              · rw [hjj] at z3
                exact absurd ⟨z, z3⟩ h1
              · omega⟩
        rw [z_t, c_bc _ _ _ (by omega), bI_r]
        by_cases hfull : pc a = m.length
        · rw [if_pos (by omega)]
          exact ⟨_, l3 a j hst hjk hpa μ1 hJ 1 (by rw [if_pos hfull]), go⟩
        · rw [if_neg (by omega)]
          exact ⟨_, l3 a j hst hjk hpa μ1 hJ 0 (by rw [if_neg hfull]), go⟩) μ1 hJ
    refine ⟨μ2, e2.trans ?_, j2⟩
    show EV (d + 4) T_X12_findFills 2 _ [] μ2 = _
    obtain ⟨hk1, hw1, hm1⟩ := pics μ2 j2.1
    rw [e_X12_findFills_2, hk1.2.1, if_neg (by omega), w_id (by omega) (by omega)]
    rfl
  obtain ⟨μ2, e2, j2⟩ := lp_j (fun (x : Nat) (μ1 : jM) => EV (d + 4) T_X12_findFills 1 [some (jR 69), some (jI i), some (jI (m.length : Nat)), some (jI ((x : Int) - 1)), none, none, none, none] [] μ1) (fun x μ1 => (∀ q, q ≠ 93 → μ1 q = μ q) ∧ ∀ s l, Stt k s l → pc s ≤ m.length → x ≤ s → μ1 93 ((11 * s + l : Nat) : Int) = B s l) (2 ^ kn k) (fun a μ1 ha hI => by
    have e1 : ((a + 1 : Nat) : Int) - 1 = (a : Int) := by omega
    by_cases hpa : pc a ≤ m.length
    · obtain ⟨μ2, e2, j2⟩ := l2 a ha hpa μ1 ⟨hI.1, fun s l hs hp hc => hI.2 s l hs hp (by
        rcases hc with z | ⟨_, j', z2, _⟩
        · omega
        · omega)⟩
      refine ⟨μ2, Eq.trans ?_ e2, j2.1, fun s l hs hp hc => j2.2 s l hs hp ?_⟩
      · show EV (d + 4) T_X12_findFills 1 _ [] μ1 = _
        rw [e1, e_X12_findFills_1, if_neg (by omega), c_bc _ _ _ (by omega), bI_r, if_neg (by omega)]
      · by_cases h1 : s = a
        · refine Or.inr ⟨h1, ?_⟩
          rcases hs.2.1 with z | z
          · exact ⟨0, by omega, by rw [z]; rfl⟩
          · exact ⟨l + 1, by omega, (lx_s l).symm⟩
        · exact Or.inl (by omega)
    · refine ⟨μ1, ?_, hI.1, fun s l hs hp hc => hI.2 s l hs hp ?_⟩
      · show EV (d + 4) T_X12_findFills 1 _ [] μ1 = _
        rw [e1, e_X12_findFills_1, if_neg (by omega), c_bc _ _ _ (by omega), bI_r, if_pos (by omega), w_id (by omega) (by omega)]
        rfl
      · by_cases h1 : s = a
        · rw [h1] at hp
          omega
        · omega) μ ⟨fun _ _ => rfl, fun s l hs hp hc => by have := hs.1; omega⟩
  have h2p := Nat.two_pow_pos (kn k)
  have h00 : Stt k 0 10 := S_ist hko (Sok_0 k)
  refine ⟨μ2, ?_, j2.1, fun s l hs hp => j2.2 s l hs hp (Nat.zero_le s)⟩
  have hv := j2.2 0 10 h00 (Nat.zero_le _) (Nat.le_refl 0)
  rw [e_X12_findFills, gd_t (by omega), c_X12_all _ hk, bI_r, hm.2.1]
  have e1 : ((2 ^ kn k - 1 : Nat) : Int) = ((2 ^ kn k : Nat) : Int) - 1 := by omega
  rw [e1]
  refine Eq.trans e2 ?_
  show EV (d + 4) T_X12_findFills 1 [some (jR 69), some (jI i), some (jI (m.length : Nat)), some (jI (-1)), none, none, none, none] [] μ2 = _
  have hpl := c_X12_place (d + 3) μ2 0 10 (by decide) (by decide)
  have hpl : CL (d + 4) 260 [jI 0, jI (-1)] μ2 = rI ((11 * 0 + 10 : Nat) : Int) μ2 := hpl
  rw [e_X12_findFills_1, if_pos (by decide), hpl, bI_r, gd_t (by decide), hv]
  rfl
theorem c_X12_fills (d : Nat) {μ : jM} {k : Kt} {w : Lw} {M : Mn} {r : List Int} (hk : KR μ k) (hw : LR μ w) (hM : MR μ M) (hok : Mkk k M) (hr : RR μ r) (a : Int) : ∃ μ', CL (d + 6) 302 [jR 69, jI a] μ = rL (if laid M a then nbI k w (Am (M a.toNat)) 0 (M a.toNat).length 0 10 else -3) μ' ∧ fR μ' μ ∧ RR μ' (if laid M a then flR k w (M a.toNat) else r) := by
  have hM0 := th0_MR hM
  rw [e_X12_fills, c_X12_isMenu _ hM0, bI_r]
  cases hl : laid M a with
  | false => exact ⟨_, rfl, fR_0 μ, th0_RR hr⟩
  | true =>
    obtain ⟨i, hi, rfl, hp⟩ := laid_i hl
    have hko := hk.1
    have h10 := hko.1
    have hN := p2_le h10
    have hl10 := (hM i hi).1
    obtain ⟨μ1, e1, f1, t1⟩ := c_X12_findFills d (th0_KR hk) (th0_LR hw) i hi (hM0 i hi) (hok i hi)
    let μ2 : jM := jup μ1 69 19 0
    have c2 : fR μ2 μ := fR_t (fR_0 μ) (fR_t ⟨fun q hq => f1 q (by omega), fun j _ => by rw [f1 69 (by decide)]⟩ (fR_19 μ1 0))
    let n := nbI k w (Am (M i)) 0 (M i).length 0 10
    let S := SS k w (Am (M i)) 0
    have key : ∀ (r s l : Nat) (μ3 : jM) (ro : List Int), fR μ3 μ → μ3 93 = μ1 93 → RR μ3 ro → ro.length + r ≤ 10 → Stt k s l → pc s + r = (M i).length → cr S (fun _ _ => true) r s l = true → 0 < n → ∃ μ', EV (d + 5) T_X12_fills 1 [some (jR 69), some (jI i), some (jL n), none, some (jI s), some (jI (lno l)), none] [] μ3 = rL n μ' ∧ fR μ' μ ∧ RR μ' (ro ++ ri (pth S (fun _ _ => true) r s l)) := by
      intro r
      induction r with
      | zero =>
        intro s l μ3 ro c3 h93 r3 _ hst hps _ hn
        have hs := hst.1
        refine ⟨μ3, ?_, c3, by rw [show pth S (fun _ _ => true) 0 s l = [] from rfl]; simpa [ri] using r3⟩
        rw [e_X12_fills_1, ite_jcmp, if_pos hn, c_bc _ _ _ (by omega), bI_r, gd_t (by omega), (fR_MR c3 hM i hi).2.1, if_neg (by omega)]
      | succ r ih =>
        intro s l μ3 ro c3 h93 r3 hle hst hps hc hn
        have hS0 := ist_S hko hst
        have hs := hst.1
        have hl := Sok_10 hko hS0
        have k3 := fR_KR c3 hk
        have w3 := fR_LR c3 hw
        have m3 := fR_MR c3 hM i hi
        let Pd : Nat → Bool := fun x => S s l x && cr S (fun _ _ => true) r (s ||| 2 ^ x) x
        have hfs := (fs_anb Pd 10).mpr hc
        obtain ⟨-, hf2, hf3⟩ := fs_spec Pd 10
        have hP := Bool.and_eq_true_iff.mp (hf3 hfs)
        have hfk := (SS_i hP.1).1
        have eS : ∀ x, x < kn k → S s l x = (Am (M i) (pc s) x && may k w s l x) := fun x hx => by
          show SS k w (Am (M i)) 0 s l x = _
          unfold SS stp
          rw [decide_eq_true hx, Bool.true_and, show pc 0 = 0 from rfl, Nat.sub_zero]
        have hstep : ∀ x : Nat, x < kn k → EV (d + 5) T_X12_fills 2 [some (jR 69), some (jI i), some (jL n), none, some (jI s), some (jI (lno l)), some (jI x)] [] μ3 = if Pd x then bV (CL (d + 5) 209 [jR 69, jI x] μ3) (fun μ4 => EV (d + 5) T_X12_fills 1 [some (jR 69), some (jI i), some (jL n), none, some (jI (s ||| 2 ^ x : Nat)), some (jI x), none] [] μ4) else EV (d + 5) T_X12_fills 2 [some (jR 69), some (jI i), some (jL n), none, some (jI s), some (jI (lno l)), some (jI (x + 1 : Nat))] [] μ3 := by
          intro x hx
          have h2x := p2_le (show x ≤ 10 by omega)
          rw [e_X12_fills_2, c_X12_isAsked _ i hi m3 h10 (hok i hi) s (by omega) (by omega) x (by omega), bI_r, w_s x (by omega)]
          show _ = if (S s l x && cr S (fun _ _ => true) r (s ||| 2 ^ x) x) then _ else _
          rw [eS x hx]
          cases hA : Am (M i) (pc s) x with
          | false => rfl
          | true =>
            rw [z_t, c_X12_may _ k3 w3 s l x hs (Sok_l hS0) hx, bI_r, Bool.true_and]
            cases hmy : may k w s l x with
            | false => rfl
            | true =>
              have hSx : S s l x = true := by rw [eS x hx, hA, hmy]; rfl
              obtain ⟨hst2, hpc⟩ := SS_stt hko hs hSx
              have hlt := hst2.1
              have hv := t1 _ _ hst2 (by omega)
              rw [hpc, show (M i).length - (pc s + 1) = r by omega] at hv
              have hcn := cr_nb k w (Am (M i)) r (pc s + 1) (s ||| 2 ^ x) x hpc hlt hko
              rw [z_t, shl_1 _ (by omega), or_nn s _ (by omega) (by omega), d_place _ _ _ x (by omega) (by omega), bI_r, gd_t (by omega), h93, hv, ite_jcmp, Bool.true_and]
              cases hcx : cr S (fun _ _ => true) r (s ||| 2 ^ x) x with
              | true =>
                have hcx : cr (SS k w (Am (M i)) 0) (fun _ _ => true) r (s ||| 2 ^ x) x = true := hcx
                rw [hcx, decide_eq_true_eq] at hcn
                rw [if_pos hcn, if_pos rfl]
              | false =>
                have hcx : cr (SS k w (Am (M i)) 0) (fun _ _ => true) r (s ||| 2 ^ x) x = false := hcx
                rw [hcx, decide_eq_false_iff_not] at hcn
                rw [if_neg hcn, if_neg (by decide)]
        obtain ⟨μ4, e4, f4, g4, r4⟩ := c_X12_tell (d + 4) r3 ((fs Pd 10 : Nat) : Int) (by omega)
        obtain ⟨hst2, hpc⟩ := SS_stt hko hs hP.1
        obtain ⟨μ5, e5, c5, r5⟩ := ih (s ||| 2 ^ fs Pd 10) (fs Pd 10) μ4 (ro ++ [((fs Pd 10 : Nat) : Int)]) (fR_t c3 (fR_row f4 g4)) ((f4 93 (by decide) (by decide)).trans h93) r4 (by rw [List.length_append, List.length_singleton]; omega) hst2 (by omega) hP.2 hn
        rw [show lno (fs Pd 10) = ((fs Pd 10 : Nat) : Int) from if_neg (by omega)] at e5
        refine ⟨μ5, ?_, c5, ?_⟩
        · rw [e_X12_fills_1, ite_jcmp, if_pos hn, c_bc _ _ _ (by omega), bI_r, gd_t (by omega), m3.2.1, if_pos (by omega)]
          refine (lp_fs (fun x : Nat => EV (d + 5) T_X12_fills 2 [some (jR 69), some (jI i), some (jL n), none, some (jI s), some (jI (lno l)), some (jI x)] [] μ3) Pd 10 (fun x hx hp hb => ?_)).trans ?_
          · have hxk : x < kn k := by
              by_cases hz : x < kn k
              · exact hz
              · have := hb (fs Pd 10) (by omega)
                rw [hf3 hfs] at this
                cases this
            rw [hstep x hxk, hp]
            rfl
          · rw [hstep _ hfk, hf3 hfs, if_pos rfl, e4, bV_r, e5]
        · have : ro ++ ri (pth S (fun _ _ => true) (r + 1) s l) = (ro ++ [((fs Pd 10 : Nat) : Int)]) ++ ri (pth S (fun _ _ => true) r (s ||| 2 ^ fs Pd 10) (fs Pd 10)) := by
            rw [List.append_assoc]
            rfl
          rw [this]
          exact r5
    show ∃ μ', _ = rL n μ' ∧ fR μ' μ ∧ RR μ' (flR k w (M i))
    unfold flR
    rw [z_t, e1, bL_r]
    by_cases hn : 0 < n
    · have hcn := cr_nb k w (Am (M i)) (M i).length 0 0 10 rfl (Nat.two_pow_pos _) hko
      have hn' : 0 < nbI k w (Am (M i)) 0 (M i).length 0 10 := hn
      rw [decide_eq_true hn'] at hcn
      obtain ⟨μ3, e3, c3, r3⟩ := key (M i).length 0 10 μ2 [] c2 (jup_ne (by decide)) (RR_0 μ1) (by simp; omega) (S_ist hko (Sok_0 k)) (by rw [show pc 0 = 0 from rfl]; omega) hcn.symm hn
      rw [if_pos hn']
      exact ⟨μ3, e3, c3, r3⟩
    · have hn' : ¬ 0 < nbI k w (Am (M i)) 0 (M i).length 0 10 := hn
      rw [if_neg hn']
      refine ⟨μ2, ?_, c2, RR_0 μ1⟩
      show EV (d + 5) T_X12_fills 1 [some (jR 69), some (jI i), some (jL n), none, some (jI 0), some (jI (-1)), none] [] μ2 = _
      rw [e_X12_fills_1, ite_jcmp, if_neg hn]
