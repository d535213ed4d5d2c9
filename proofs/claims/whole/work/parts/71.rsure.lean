/-! ## the reference: what is sure -/
theorem nbI_A {k : Kt} (w : Lw) {A A' : Ap} (h : ∀ i x, x < kn k → A i x = A' i x) : ∀ r i s l, nbI k w A i r s l = nbI k w A' i r s l
  | 0, _, _, _ => rfl
  | r + 1, i, s, l => sm_cg 10 (fun x _ => by rw [stp_A w h, nbI_A w h r])
/-- a MENU with one place told -/
def mse1 (m : List Nat) (p d : Nat) : List Nat := mkl m.length (fun j => if j = p then d else m.getD j 10)
theorem Am_mse1 {m : List Nat} {p d : Nat} (hp : p < m.length) (hd : d < 10) (hv : m.getD p 10 = 10 ∨ m.getD p 10 = d) (i x : Nat) : Am (mse1 m p d) i x = Aat (Am m) p d i x := by
  show ((mse1 m p d).getD i 10 == 10 || (mse1 m p d).getD i 10 == x) = if i = p then ((m.getD i 10 == 10 || m.getD i 10 == x) && x == d) else (m.getD i 10 == 10 || m.getD i 10 == x)
  unfold mse1
  rw [mkl_at]
  by_cases h1 : i = p
  · subst h1
    rw [if_pos hp, if_pos rfl, if_pos rfl]
    have e10 : (d == 10) = false := by simp; omega
    rw [e10, Bool.false_or]
    by_cases h2 : x = d
    · subst h2
      rcases hv with z | z <;> rw [z] <;> simp
    · have e1 : (d == x) = false := by simpa using Ne.symm h2
      have e2 : (x == d) = false := by simpa using h2
      rw [e1, e2, Bool.and_false]
  · rw [if_neg h1]
    by_cases hi : i < m.length
    · rw [if_pos hi, if_neg h1]
    · rw [if_neg hi, if_neg h1, getD_hi (m := m) (i := i) (by omega)]
theorem jcmp_0 (x y : Int) : (jcmp x y = 0) ↔ x = y := by
  unfold jcmp
  by_cases h1 : y < x
  · rw [if_pos h1]
    constructor
    · intro h
      cases h
    · omega
  · rw [if_neg h1]
    by_cases h2 : x = y
    · rw [if_pos h2]
      exact ⟨fun _ => h2, fun _ => rfl⟩
    · rw [if_neg h2]
      constructor
      · intro h
        cases h
      · intro h
        exact absurd h h2
theorem c_X12_sure (d : Nat) {μ : jM} {k : Kt} {w : Lw} {M : Mn} (hk : KR μ k) (hw : LR μ w) (hM : MR μ M) (hok : Mkk k M) {r : List Int} (hr : RR μ r) (a p : Int) : ∃ μ', CL (d + 6) 303 [jR 69, jI a, jI p] μ = rI (if laid M a = true ∧ 0 ≤ p ∧ p < (M a.toNat).length then (sur k w (Am (M a.toNat)) (M a.toNat).length p.toNat : Nat) else -3) μ' ∧ fR μ' μ ∧ MR μ' M ∧ RR μ' r := by
  have hM0 := th0_MR hM
  rw [e_X12_sure, c_X12_isMenu _ hM0, bI_r]
  cases hl : laid M a with
  | false =>
    rw [if_neg (show ¬ (false = true ∧ 0 ≤ p ∧ p < ((M a.toNat).length : Int)) from fun z => by cases z.1)]
    exact ⟨_, rfl, fR_0 μ, hM0, th0_RR hr⟩
  | true =>
    obtain ⟨i, hi, rfl, hp⟩ := laid_i hl
    have hko := hk.1
    have h10 := hko.1
    obtain ⟨hl10, m2, m3⟩ := hM0 i hi
    rw [z_t, Int.toNat_natCast, gd_t (by omega), m2, w_id (by omega) (by omega), c_X12_in]
    by_cases hpp : 0 ≤ p ∧ p ≤ ((M i).length : Int) - 1
    · obtain ⟨x, rfl⟩ := Int.eq_ofNat_of_zero_le hpp.1
      have hx : x < (M i).length := by omega
      rw [if_pos hpp, bI_r, if_neg (by decide), if_pos (show true = true ∧ (0 : Int) ≤ (x : Int) ∧ (x : Int) < ((M i).length : Int) from ⟨rfl, by omega, by omega⟩), Int.toNat_natCast]
      obtain ⟨μ1, e1, f1, -⟩ := c_X12_findFills d (th0_KR hk) (th0_LR hw) i hi (hM0 i hi) (hok i hi)
      let n := nbI k w (Am (M i)) 0 (M i).length 0 10
      have hmo := Mok_at (hok i hi) x
      have hixp : 10 * i + x < 30 := by omega
      -- what stands: all as it was but the place and the table
      let I : Nat → Nat → jM → Prop := fun b y μ2 => (∀ q, q ≠ 93 → q ≠ 78 → μ2 q = jup μ 69 20 0 q) ∧ (∀ z : Int, z ≠ ((10 * i + x : Nat) : Int) → μ2 78 z = μ 78 z) ∧ b = bm (fun z => decide (0 < n) && decide (nbI k w (Aat (Am (M i)) x z) 0 (M i).length 0 10 = n)) y
      have pics : ∀ μ2 b y, I b y μ2 → KR μ2 k ∧ LR μ2 w := fun μ2 b y hI => by
        obtain ⟨f, -, -⟩ := hI
        have h1 : ∀ q, q ≠ 69 → q ≠ 93 → q ≠ 78 → μ2 q = μ q := fun q a b c => (f q b c).trans (jup_ne a)
        have h2 : ∀ j : Int, j ≠ 20 → μ2 69 j = μ 69 j := fun j hj => by rw [f 69 (by decide) (by decide), jup_m hj]
        exact ⟨KR_cg hk (fun q _ _ => h1 q (by omega) (by omega) (by omega)) (h2 1 (by decide)) (h2 6 (by decide)), LR_cg hw (h1 70 (by decide) (by decide) (by decide)) (h2 9 (by decide)) (h2 10 (by decide)) (h2 11 (by decide))⟩
      -- a MENU with y at the place
      have put : ∀ μ2 b y, I b y μ2 → y < kn k → ((M i).getD x 10 = 10 ∨ (M i).getD x 10 = y) → MRi (jup μ2 78 ((10 * i + x : Nat) : Int) (y : Int)) i (mse1 (M i) x y) ∧ Mok (kn k) (mse1 (M i) x y) := fun μ2 b y hI hy hv => by
        obtain ⟨f, g, -⟩ := hI
        obtain ⟨n1, n2, n3⟩ := hM i hi
        refine ⟨⟨by unfold mse1; rw [mkl_len]; exact n1, ?_, fun j hj => ?_⟩, Mok_mkl (fun j _ => ?_)⟩
        · unfold mse1
          rw [jup_ne (by decide), f 79 (by decide) (by decide), jup_ne (by decide), mkl_len]
          exact n2
        · unfold mse1 at hj ⊢
          rw [mkl_len] at hj
          rw [mkl_at, if_pos hj]
          by_cases hjx : j = x
          · rw [hjx, jup_r, if_pos rfl]
            unfold u99
            rw [if_neg (by omega)]
          · rw [jup_m (by omega), if_neg hjx, g _ (by omega)]
            exact n3 j hj
        · by_cases hjx : j = x
          · rw [if_pos hjx]
            exact Or.inr hy
          · rw [if_neg hjx]
            exact Mok_at (hok i hi) j
      have was : ∀ u : Int, u = u99 ((M i).getD x 10) → (∃ μ', EV (d + 5) T_X12_sure 1 [some (jR 69), some (jI i), some (jI x), some (jL n), none, some (jI u), some (jI 0), some (jI 0)] [] μ1 = rI (bm (fun z => decide (0 < n) && decide (nbI k w (Aat (Am (M i)) x z) 0 (M i).length 0 10 = n)) (kn k) : Nat) μ' ∧ (∀ q, q ≠ 93 → q ≠ 78 → μ' q = jup μ 69 20 0 q) ∧ (∀ z : Int, z ≠ ((10 * i + x : Nat) : Int) → μ' 78 z = μ 78 z) ∧ μ' 78 ((10 * i + x : Nat) : Int) = u) := by
        intro u hu
        have hu99 := u99_i h10 hmo
        obtain ⟨⟨b, μ2⟩, e2, i2⟩ := lp_i (fun (y : Nat) (q : Nat × jM) => EV (d + 5) T_X12_sure 1 [some (jR 69), some (jI i), some (jI x), some (jL n), none, some (jI u), some (jI (q.1 : Nat)), some (jI y)] [] q.2) (fun y q => I q.1 y q.2) (kn k) (fun y q hy hI => by
          obtain ⟨b, μ2⟩ := q
          have hI : I b y μ2 := hI
          obtain ⟨k2, w2⟩ := pics μ2 b y hI
          have hb := hI.2.2
          have hblt : b < 2 ^ 10 := by
            rw [hb]
            exact bm_lt' _ (by omega)
          have h2y := p2_le (show y ≤ 10 by omega)
          have eb : bm (fun z => decide (0 < n) && decide (nbI k w (Aat (Am (M i)) x z) 0 (M i).length 0 10 = n)) (y + 1) = b ||| (if (decide (0 < n) && decide (nbI k w (Aat (Am (M i)) x y) 0 (M i).length 0 10 = n)) then 2 ^ y else 0) := by
            rw [hb]
            rfl
          have stay : (decide (0 < n) && decide (nbI k w (Aat (Am (M i)) x y) 0 (M i).length 0 10 = n)) = false → I b (y + 1) μ2 := fun hz => ⟨hI.1, hI.2.1, by rw [eb, hz, if_neg (by decide), Nat.or_zero]⟩
          show ∃ s', EV (d + 5) T_X12_sure 1 [some (jR 69), some (jI i), some (jI x), some (jL n), none, some (jI u), some (jI (b : Nat)), some (jI y)] [] μ2 = _ ∧ _
          have fills : ((M i).getD x 10 = 10 ∨ (M i).getD x 10 = y) → 0 < n → ∃ s', (bL (CL (d + 5) 300 [jR 69, jI i] (jup μ2 78 ((10 * i + x : Nat) : Int) (y : Int))) fun x1 μ1 => if (jcmp x1 n) = 0 then EV (d + 5) T_X12_sure 1 [some (jR 69), some (jI i), some (jI x), some (jL n), none, some (jI u), some (jI (jor b (jshl 1 (y : Int)))), some (jI (y + 1 : Nat))] [] μ1 else EV (d + 5) T_X12_sure 1 [some (jR 69), some (jI i), some (jI x), some (jL n), none, some (jI u), some (jI (b : Nat)), some (jI (y + 1 : Nat))] [] μ1) = (fun (y : Nat) (q : Nat × jM) => EV (d + 5) T_X12_sure 1 [some (jR 69), some (jI i), some (jI x), some (jL n), none, some (jI u), some (jI (q.1 : Nat)), some (jI y)] [] q.2) (y + 1) s' ∧ I s'.1 (y + 1) s'.2 := fun hv hn => by
            obtain ⟨q1, q2⟩ := put μ2 b y hI hy hv
            have hk3 : KR (jup μ2 78 ((10 * i + x : Nat) : Int) (y : Int)) k := KR_cg k2 (fun q _ _ => jup_ne (by omega)) (congrFun (jup_ne (by decide)) _) (congrFun (jup_ne (by decide)) _)
            have hw3 : LR (jup μ2 78 ((10 * i + x : Nat) : Int) (y : Int)) w := LR_cg w2 (jup_ne (by decide)) (congrFun (jup_ne (by decide)) _) (congrFun (jup_ne (by decide)) _) (congrFun (jup_ne (by decide)) _)
            obtain ⟨μ3, e3, f3, -⟩ := c_X12_findFills d hk3 hw3 i hi q1 q2
            have en : nbI k w (Am (mse1 (M i) x y)) 0 (mse1 (M i) x y).length 0 10 = nbI k w (Aat (Am (M i)) x y) 0 (M i).length 0 10 := by
              rw [show (mse1 (M i) x y).length = (M i).length from mkl_len _ _]
              exact nbI_A w (fun j z _ => Am_mse1 hx (by omega) hv j z) _ _ _ _
            rw [en] at e3
            have ff : ∀ q, q ≠ 93 → q ≠ 78 → μ3 q = jup μ 69 20 0 q := fun q a b => (f3 q a).trans ((jup_ne b).trans (hI.1 q a b))
            have gg : ∀ z : Int, z ≠ ((10 * i + x : Nat) : Int) → μ3 78 z = μ 78 z := fun z hz => by rw [f3 78 (by decide), jup_m hz]; exact hI.2.1 z hz
            rw [e3, bL_r]
            by_cases heq : nbI k w (Aat (Am (M i)) x y) 0 (M i).length 0 10 = n
            · rw [if_pos ((jcmp_0 _ _).mpr heq), shl_1 _ (by omega), or_nn b _ (by omega) (by omega)]
              exact ⟨(b ||| 2 ^ y, μ3), rfl, ff, gg, by
                show b ||| 2 ^ y = _
                rw [eb, decide_eq_true hn, decide_eq_true heq]
                rfl⟩
            · rw [if_neg (fun z => heq ((jcmp_0 _ _).mp z))]
              exact ⟨(b, μ3), rfl, ff, gg, by
                show b = _
                rw [eb, decide_eq_false heq, Bool.and_false, if_neg (by decide), Nat.or_zero]⟩
          have hux := u99_x h10 hmo (show y < 10 by omega)
          rw [e_X12_sure_1, k2.2.1, if_pos (by omega), ite_jcmp, ix10 i x hi (by omega), w_s y (by omega)]
          by_cases hn : 0 < n
          · rw [if_pos hn]
            by_cases h1 : (M i).getD x 10 = 10
            · rw [if_pos (show u = 99 by rw [hu]; exact hu99.mpr h1), gd_t (by omega)]
              exact fills (Or.inl h1) hn
            · rw [if_neg (show ¬ u = 99 from fun z => h1 (hu99.mp (by rw [← hu]; exact z)))]
              by_cases h2 : (M i).getD x 10 = y
              · rw [if_pos (show u = (y : Int) by rw [hu]; exact hux.mpr h2), gd_t (by omega)]
                exact fills (Or.inr h2) hn
              · rw [if_neg (show ¬ u = (y : Int) from fun z => h2 (hux.mp (by rw [← hu]; exact z)))]
                refine ⟨(b, μ2), rfl, stay ?_⟩
                -- another one can't be there
                have hz : nbI k w (Aat (Am (M i)) x y) 0 (M i).length 0 10 = 0 := by
                  have hcn := cr_nb k w (Aat (Am (M i)) x y) (M i).length 0 0 10 rfl (Nat.two_pow_pos _) hko
                  have hge := nbI_ge k w (Aat (Am (M i)) x y) (M i).length 0 0 10
                  cases hc : cr (SS k w (Aat (Am (M i)) x y) 0) (fun _ _ => true) (M i).length 0 10 with
                  | false =>
                    rw [hc, decide_eq_false_iff_not] at hcn
                    omega
                  | true =>
                    exfalso
                    obtain ⟨t, h8, -⟩ := (at_iff hko hx).mp hc
                    rw [rc_s, Bool.and_eq_true] at h8
                    obtain ⟨l', -, h9⟩ := anb_iff.mp h8.2
                    rw [Bool.and_eq_true] at h9
                    have := h9.2
                    unfold stp Am at this
                    rw [Bool.and_eq_true, Bool.and_eq_true, Bool.or_eq_true] at this
                    rcases this.2.1 with z | z
                    · exact h1 (by simpa using z)
                    · exact h2 (by simpa using z)
                rw [hz, decide_eq_false (show ¬ (0 : Int) = n by omega), Bool.and_false]
          · rw [if_neg hn]
            -- the loop ends at once, with nothing
            have hall : ∀ z, z ≤ kn k → bm (fun z => decide (0 < n) && decide (nbI k w (Aat (Am (M i)) x z) 0 (M i).length 0 10 = n)) z = 0 := fun z _ => bm_no z (fun _ _ => by rw [decide_eq_false hn, Bool.false_and])
            refine ⟨(b, μ2), ?_, stay (by rw [decide_eq_false hn, Bool.false_and])⟩
            show _ = EV (d + 5) T_X12_sure 1 [some (jR 69), some (jI i), some (jI x), some (jL n), none, some (jI u), some (jI (b : Nat)), some (jI (y + 1 : Nat))] [] μ2
            rw [e_X12_sure_1, ite_jcmp, if_neg hn, ix10 i x hi (by omega)]
            split <;> rfl) (0, μ1) ⟨fun q a b => f1 q a, fun z _ => by
            show μ1 78 z = μ 78 z
            rw [f1 78 (by decide), jup_ne (by decide)], rfl⟩
        have i2 : I b (kn k) μ2 := i2
        obtain ⟨k2, -⟩ := pics μ2 b (kn k) i2
        refine ⟨jup μ2 78 ((10 * i + x : Nat) : Int) u, e2.trans ?_, fun q a b => (jup_ne b).trans (i2.1 q a b), fun z hz => (jup_m hz).trans (i2.2.1 z hz), jup_r _ _ _ _⟩
        show EV (d + 5) T_X12_sure 1 [some (jR 69), some (jI i), some (jI x), some (jL n), none, some (jI u), some (jI (b : Nat)), some (jI (kn k))] [] μ2 = _
        rw [e_X12_sure_1, k2.2.1, if_neg (by omega), ix10 i x hi (by omega), gd_t (by omega), i2.2.2]
      have hv78 : μ1 78 ((10 * i + x : Nat) : Int) = u99 ((M i).getD x 10) := by
        rw [f1 78 (by decide)]
        exact m3 x hx
      obtain ⟨μ', e', f', g', h'⟩ := was _ hv78
      have hMf : MR μ' M := fun y hy => by
        obtain ⟨y1, y2, y3⟩ := hM y hy
        refine ⟨y1, by rw [f' 79 (by decide) (by decide), jup_ne (by decide)]; exact y2, fun j hj => ?_⟩
        by_cases he : ((10 * y + j : Nat) : Int) = ((10 * i + x : Nat) : Int)
        · have hyi : y = i ∧ j = x := by omega
          rw [hyi.1, hyi.2, h', hv78]
        · rw [g' _ he]
          exact y3 j hj
      have f78 : μ' 78 = μ 78 := by
        funext z
        by_cases hz : z = ((10 * i + x : Nat) : Int)
        · rw [hz, h', hv78, ← m3 x hx, jup_ne (by decide)]
        · exact g' z hz
      have c' : fR μ' μ := ⟨fun q hq => by
        by_cases h8 : q = 78
        · rw [h8]
          exact f78
        · exact (f' q (by omega) h8).trans (jup_ne (by omega)), fun j hj => by rw [f' 69 (by decide) (by decide), jup_m (by omega)]⟩
      refine ⟨μ', ?_, c', hMf, RR_cg hr ((f' 81 (by decide) (by decide)).trans (jup_ne (by decide))) (by rw [f' 69 (by decide) (by decide), jup_m (by decide)])⟩
      rw [e1, bL_r, ix10 i x hi (by omega), gd_t (by omega), e']
      -- the same bits
      have ebit : bm (fun z => decide (0 < n) && decide (nbI k w (Aat (Am (M i)) x z) 0 (M i).length 0 10 = n)) (kn k) = sur k w (Am (M i)) (M i).length x := by
        unfold sur
        by_cases hn : 0 < n
        · have hn' : 0 < nbI k w (Am (M i)) 0 (M i).length 0 10 := hn
          rw [if_pos hn']
          apply Nat.eq_of_testBit_eq
          intro z
          rw [bm_tb, bm_tb, decide_eq_true hn, Bool.true_and]
          by_cases hz : z < kn k
          · rw [decide_eq_true hz, decide_eq_true (show z < 10 by omega)]
          · rw [decide_eq_false hz, Bool.false_and]
            symm
            by_cases hz10 : z < 10
            · rw [decide_eq_true hz10, Bool.true_and, decide_eq_false_iff_not]
              intro heq
              have hcn := cr_nb k w (Aat (Am (M i)) x z) (M i).length 0 0 10 rfl (Nat.two_pow_pos _) hko
              have hpos : 0 < nbI k w (Aat (Am (M i)) x z) 0 (M i).length 0 10 := by omega
              rw [decide_eq_true hpos] at hcn
              obtain ⟨t, h8, -⟩ := (at_iff hko hx).mp hcn.symm
              rw [rc_s, Bool.and_eq_true, Bool.and_eq_true, decide_eq_true_eq] at h8
              omega
            · rw [decide_eq_false hz10, Bool.false_and]
        · have hn' : ¬ 0 < nbI k w (Am (M i)) 0 (M i).length 0 10 := hn
          rw [if_neg hn']
          exact bm_no _ (fun _ _ => by rw [decide_eq_false hn, Bool.false_and])
      rw [ebit]
    · rw [if_neg hpp, if_neg (show ¬ (true = true ∧ 0 ≤ p ∧ p < ((M i).length : Int)) from fun z => by omega)]
      exact ⟨_, rfl, fR_0 μ, hM0, th0_RR hr⟩
