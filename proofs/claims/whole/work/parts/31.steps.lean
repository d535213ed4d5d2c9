/-- what has been learned of kitchen and law -/
def TL (μ : jM) (k : Kt) (w : Lw) : Prop := Kok k ∧ Lok w ∧ μ 29 6 = (kn k : Int) ∧ μ 29 7 = (khot k : Int) ∧ μ 29 8 = (if lhe w = 1 then 1 else 0) ∧ (∀ x : Nat, x < kn k → μ 32 x = (nr k w x : Int)) ∧ μ 32 10 = 2047 ∧ (∀ u : Nat, u < 8 → μ 34 u = (khs k u : Int) ∧ μ 35 u = (lmo w u : Int)) ∧ (∀ s : Nat, s < 2 ^ kn k → μ 30 s = if stk k w s then 1 else 0)
theorem TL_cg {μ μ' : jM} {k : Kt} {w : Lw} (h : TL μ k w) (e : ∀ q, q = 30 ∨ q = 32 ∨ q = 34 ∨ q = 35 → μ' q = μ q) (e2 : ∀ j, j = 6 ∨ j = 7 ∨ j = 8 → μ' 29 j = μ 29 j) : TL μ' k w := by
  obtain ⟨h1, h2, h3, h4, h5, h6, h7, h8, h9⟩ := h
  refine ⟨h1, h2, by rw [e2 6 (by decide)]; exact h3, by rw [e2 7 (by decide)]; exact h4, by rw [e2 8 (by decide)]; exact h5, fun x hx => ?_, by rw [e 32 (by decide)]; exact h7, fun u hu => ?_, fun s hs => ?_⟩
  · rw [e 32 (by decide)]; exact h6 x hx
  · rw [e 34 (by decide), e 35 (by decide)]; exact h8 u hu
  · rw [e 30 (by decide)]; exact h9 s hs
theorem nr_lt {k : Kt} (hk : Kok k) (w : Lw) (x : Nat) : nr k w x < 2048 := by
  have h1 : ksh k (lsh w) x < 2 ^ 11 := bm_lt' _ (by have := hk.1; omega)
  have h2 : ksh k (lsh w) x ||| 1024 < 2 ^ 11 := Nat.or_lt_two_pow h1 (by decide)
  unfold nr
  split
  · split
    · exact Nat.lt_of_le_of_lt (nd_le _ _) h2
    · exact Nat.lt_of_le_of_lt Nat.and_le_left h2
  · exact h2
theorem stk_0 (k : Kt) (w : Lw) : stk k w 0 = true := by
  unfold stk
  have : anb (fun u => decide (lmo w u < pc (khs k u &&& 0))) 8 = anb (fun _ => false) 8 := anb_cg (fun i _ => by
    rw [Nat.and_zero]
    simp [show pc 0 = 0 from rfl])
  rw [this]
  rfl
theorem pc_mono {a b : Nat} (h : ∀ i, a.testBit i = true → b.testBit i = true) : pc a ≤ pc b := by
  have : ∀ n, pcb n a ≤ pcb n b := by
    intro n
    induction n with
    | zero => exact Nat.le_refl 0
    | succ n ih =>
      show pcb n a + _ ≤ pcb n b + _
      have hn := h n
      cases ha : a.testBit n with
      | false =>
        rw [if_neg (by decide)]
        omega
      | true =>
        rw [hn ha, if_pos rfl]
        omega
  exact this 12
theorem stk_mono {k : Kt} {w : Lw} {a b : Nat} (h : ∀ i, a.testBit i = true → b.testBit i = true) (hb : stk k w b = true) : stk k w a = true := by
  unfold stk at hb ⊢
  rw [Bool.not_eq_true'] at hb ⊢
  cases ha : anb (fun u => decide (lmo w u < pc (khs k u &&& a))) 8 with
  | false => rfl
  | true =>
    obtain ⟨u, hu, hp⟩ := anb_iff.mp ha
    have h2 := anb_f hb hu
    simp only [decide_eq_true_eq, decide_eq_false_iff_not] at hp h2
    have h3 : pc (khs k u &&& a) ≤ pc (khs k u &&& b) := pc_mono (fun i hi => by
      rw [Nat.testBit_and, Bool.and_eq_true] at hi ⊢
      exact ⟨hi.1, h i hi.2⟩)
    omega
theorem lmo_ok {w : Lw} (h : Lok w) (u : Nat) : lmo w u ≤ 9 := by
  unfold lmo
  have := h.2.1.2
  omega
theorem c_X8_isStocked (d : Nat) {μ : jM} {k : Kt} {w : Lw} (hk : Kok k) (hw : Lok w) (h : ∀ u : Nat, u < 8 → μ 34 u = (khs k u : Int) ∧ μ 35 u = (lmo w u : Int)) (s : Nat) (hs : s < 1024) : CL (d + 2) 107 [jR 29, jI s] μ = rI (if stk k w s then 1 else 0) μ := by
  have ev : ∀ u : Nat, u < 8 → EV (d + 1) T_X8_isStocked 1 [some (jR 29), some (jI s), some (jI u)] [] μ = if lmo w u < pc (khs k u &&& s) then rI 0 μ else EV (d + 1) T_X8_isStocked 1 [some (jR 29), some (jI s), some (jI (u + 1 : Nat))] [] μ := by
    intro u hu
    have hb : khs k u < 2 ^ 10 := bm_lt' _ hk.1
    have ha := Nat.and_le_left (n := khs k u) (m := s)
    rw [e_X8_isStocked_1, if_pos (by omega), gd_t (by omega), (h u hu).1, and_nn _ _ (by omega) (by omega), c_bc _ _ _ (by omega), bI_r, gd_t (by omega), (h u hu).2, w_s _ (by omega)]
    by_cases hz : lmo w u < pc (khs k u &&& s)
    · rw [if_pos (by omega), if_pos hz]
      rfl
    · rw [if_neg (by omega), if_neg hz]
  rw [e_X8_isStocked]
  refine (lp_fs (fun u : Nat => EV (d + 1) T_X8_isStocked 1 [some (jR 29), some (jI s), some (jI u)] [] μ) (fun u => decide (lmo w u < pc (khs k u &&& s))) 8 (fun u hu hp _ => ?_)).trans ?_
  · rw [ev u hu, if_neg (by simpa using hp)]
  · obtain ⟨f1, f2, f3⟩ := fs_spec (fun u => decide (lmo w u < pc (khs k u &&& s))) 8
    unfold stk
    cases ha : anb (fun u => decide (lmo w u < pc (khs k u &&& s))) 8 with
    | true =>
      have hlt := (fs_anb _ _).mpr ha
      rw [ev _ hlt, if_pos (by simpa using f3 hlt)]
      rfl
    | false =>
      have hnlt : ¬ fs (fun u => decide (lmo w u < pc (khs k u &&& s))) 8 < 8 := fun z => by
        rw [(fs_anb _ _).mp z] at ha
        cases ha
      have e8 : fs (fun u => decide (lmo w u < pc (khs k u &&& s))) 8 = 8 := by omega
      rw [e8, e_X8_isStocked_1, if_neg (by decide)]
      rfl
theorem c_X8_sets (d : Nat) {μ : jM} {n : Nat} (h : μ 29 6 = (n : Int)) (hn : n ≤ 10) : CL (d + 1) 111 [jR 29] μ = rI ((2 ^ n : Nat) : Int) μ := by
  rw [e_X8_sets, h, shl_1 _ (by omega)]
theorem and_pred {a : Nat} (h : 0 < a) (h2 : a < 2147483648) : jand (a : Int) (w32 ((a : Int) - 1)) = ((a &&& (a - 1) : Nat) : Int) := by
  rw [w_id (by omega) (by omega), show (a : Int) - 1 = ((a - 1 : Nat) : Int) by omega, and_nn _ _ h2 (by omega)]
theorem c_X8_learn (d : Nat) {μ : jM} {p : Nat} {w : Lw} {k : Kt} (h : LI μ p w) (hk : KI μ k) : ∃ μ', CL (d + 4) 106 [jR 29, jR 3, jR p] μ = rV μ' ∧ (∀ q, q ≠ 29 → q ≠ 30 → q ≠ 32 → q ≠ 34 → q ≠ 35 → μ' q = μ q) ∧ (∀ j, j ≠ 6 → j ≠ 7 → j ≠ 8 → μ' 29 j = μ 29 j) ∧ TL μ' k w := by
  obtain ⟨l1, l2, l3, l4⟩ := isL_f h.1
  have hpl : p ≠ 29 ∧ p ≠ 30 ∧ p ≠ 32 ∧ p ≠ 34 ∧ p ≠ 35 ∧ p + 1 ≠ 29 ∧ p + 1 ≠ 30 ∧ p + 1 ≠ 32 ∧ p + 1 ≠ 34 ∧ p + 1 ≠ 35 := by rcases h.1 with rfl | rfl | rfl | rfl <;> decide
  have h10 := hk.1.1
  have hkh : khot k < 2 ^ 10 := bm_lt' _ h10
  have hwo := h.2.1.2.2.1
  have hws := h.2.1.1
  let M1 : jM := jup (jup (jup μ 29 6 (kn k : Int)) 29 7 (khot k : Int)) 29 8 (if lhe w = 1 then 1 else 0)
  let G32 : Nat → jM := fun i => jpre M1 32 (fun x => (nr k w x : Int)) i
  let M2 : jM := jup (G32 (kn k)) 32 10 2047
  let G3 : Nat → jM := fun i => jpre (jpre M2 34 (fun u => (khs k u : Int)) i) 35 (fun u => (lmo w u : Int)) i
  let M3 : jM := G3 8
  let G30 : Nat → jM := fun i => jpre M3 30 (fun s => if stk k w s then 1 else 0) i
  have frame : ∀ M : jM, (∀ q, q ≠ 29 → q ≠ 30 → q ≠ 32 → q ≠ 34 → q ≠ 35 → M q = μ q) → KI M k ∧ LI M p w := fun M hM => ⟨KI_cg hk (fun q h1 h2 => hM q (by omega) (by omega) (by omega) (by omega) (by omega)), LI_cg h (hM p hpl.1 hpl.2.1 hpl.2.2.1 hpl.2.2.2.1 hpl.2.2.2.2.1) (hM (p + 1) hpl.2.2.2.2.2.1 hpl.2.2.2.2.2.2.1 hpl.2.2.2.2.2.2.2.1 hpl.2.2.2.2.2.2.2.2.1 hpl.2.2.2.2.2.2.2.2.2)⟩
  have f1 : ∀ q, q ≠ 29 → M1 q = μ q := fun q hq => by
    show jup (jup (jup μ 29 6 _) 29 7 _) 29 8 _ q = _
    rw [jup_ne hq, jup_ne hq, jup_ne hq]
  have f32 : ∀ i q, q ≠ 29 → q ≠ 32 → G32 i q = μ q := fun i q h1 h2 => (jpre_ne h2).trans (f1 q h1)
  have g32 : ∀ i, G32 i 29 = M1 29 := fun i => jpre_ne (by decide)
  have m2 : ∀ q, q ≠ 32 → M2 q = M1 q := fun q hq => (jup_ne hq).trans (jpre_ne hq)
  have g3 : ∀ i q, q ≠ 34 → q ≠ 35 → G3 i q = M2 q := fun i q h1 h2 => (jpre_ne h2).trans (jpre_ne h1)
  have g30 : ∀ i q, q ≠ 30 → G30 i q = M3 q := fun i q hq => jpre_ne hq
  have v6 : M1 29 6 = (kn k : Int) := by show jup _ _ _ _ _ _ = _; simp (disch := omega) only [jup_r, jup_m, jup_n]
  have v7 : M1 29 7 = (khot k : Int) := by show jup _ _ _ _ _ _ = _; simp (disch := omega) only [jup_r, jup_m, jup_n]
  have v8 : M1 29 8 = (if lhe w = 1 then 1 else 0) := jup_r _ _ _ _
  -- the first loop
  have s1 : ∀ i : Nat, i < kn k → EV (d + 3) T_X8_learn 1 [some (jR 29), some (jR 3), some (jR p), some (jI i)] [] (G32 i) = EV (d + 3) T_X8_learn 1 [some (jR 29), some (jR 3), some (jR p), some (jI (i + 1 : Nat))] [] (G32 (i + 1)) := by
    intro i hi
    obtain ⟨ki, li⟩ := frame (G32 i) (fun q h1 h2 h3 h4 h5 => f32 i q h1 h3)
    have hsh : ksh k (lsh w) i < 2 ^ 10 := bm_lt' _ h10
    have hor : ksh k (lsh w) i ||| 1024 < 2 ^ 11 := Nat.or_lt_two_pow (Nat.lt_of_lt_of_le hsh (by decide)) (by decide)
    have hor2 : khot k ||| 1024 < 2 ^ 11 := Nat.or_lt_two_pow (Nat.lt_of_lt_of_le hkh (by decide)) (by decide)
    have ho := or_nn (ksh k (lsh w) i) 1024 (by omega) (by decide)
    have ho2 := or_nn (khot k) 1024 (by omega) (by decide)
    rw [e_X8_learn_1, g32, v6, if_pos (by omega), cd_t l1, c_X2_share _ li, bI_r, c_X1_sharing _ ki i _ hi (by omega), bI_r, gd_t (by omega)]
    rw [show (1024 : Int) = ((1024 : Nat) : Int) from rfl, ho]
    have lj : LI (jup (G32 i) 32 i ((ksh k (lsh w) i ||| 1024 : Nat) : Int)) p w := LI_cg li (jup_ne hpl.2.2.1) (jup_ne hpl.2.2.2.2.2.2.2.1)
    rw [cd_t l1, c_X2_heat _ lj, bI_r, w_s _ (by omega)]
    simp only [jup_jup]
    rw [jup_n (show (29 : Nat) ≠ 32 by decide), g32, v7, tb_1 _ i (by omega) (by omega), jup_r, ho2, xor_m1 _ (by omega), and_nc _ _ (by omega) (by omega), and_nn _ _ (by omega) (by omega)]
    have fin : ∀ v : Nat, v = nr k w i → jup (G32 i) 32 i (v : Int) = G32 (i + 1) := fun v hv => by
      subst hv
      exact jpre_s M1 32 (fun x => (nr k w x : Int)) i rfl
    by_cases he : lhe w = 2
    · rw [if_pos (by omega), gd_t (by omega)]
      cases hh : (khot k).testBit i with
      | true =>
        refine (if_pos rfl).trans ?_
        rw [gd_t (by omega), fin _ (by unfold nr; rw [if_pos he, hh]; rfl)]
      | false =>
        refine (if_neg (by decide)).trans ?_
        rw [gd_t (by omega), fin _ (by unfold nr; rw [if_pos he, hh]; rfl)]
    · rw [if_neg (by omega), fin _ (by unfold nr; rw [if_neg he])]
  -- the second
  have s2 : ∀ i : Nat, i < 8 → EV (d + 3) T_X8_learn 2 [some (jR 29), some (jR 3), some (jR p), some (jI i)] [] (G3 i) = EV (d + 3) T_X8_learn 2 [some (jR 29), some (jR 3), some (jR p), some (jI (i + 1 : Nat))] [] (G3 (i + 1)) := by
    intro i hi
    obtain ⟨ki, li⟩ := frame (G3 i) (fun q h1 h2 h3 h4 h5 => (g3 i q h4 h5).trans ((m2 q h3).trans (f1 q h1)))
    rw [e_X8_learn_2, if_pos (by omega), c_X1_holdersOf _ ki i hi, bI_r, gd_t (by omega), cd_t l1]
    have lj : LI (jup (G3 i) 34 i (khs k i : Int)) p w := LI_cg li (jup_ne hpl.2.2.2.1) (jup_ne hpl.2.2.2.2.2.2.2.2.1)
    rw [c_X2_most _ lj i hi, bI_r, gd_t (by omega), w_s _ (by omega)]
    congr 1
    show jup (jup (jpre (jpre M2 34 _ i) 35 _ i) 34 i _) 35 i _ = _
    rw [jup_pre (by decide), jpre_s M2 34 (fun u => (khs k u : Int)) i rfl]
    exact jpre_s _ 35 (fun u => (lmo w u : Int)) i rfl
  -- the third
  have hsets : ∀ M : jM, M 29 = M1 29 → ∀ d, CL (d + 1) 111 [jR 29] M = rI ((2 ^ kn k : Nat) : Int) M := fun M hM d => c_X8_sets d (by rw [hM]; exact v6) h10
  have h2n : 2 ^ kn k ≤ 2 ^ 10 := p2_le h10
  have m3 : ∀ i, G30 i 29 = M1 29 := fun i => (g30 i 29 (by decide)).trans ((g3 8 29 (by decide) (by decide)).trans (m2 29 (by decide)))
  have m34 : ∀ i, ∀ u : Nat, u < 8 → G30 i 34 u = (khs k u : Int) ∧ G30 i 35 u = (lmo w u : Int) := by
    intro i u hu
    rw [g30 i 34 (by decide), g30 i 35 (by decide)]
    refine ⟨?_, jpre_lo hu⟩
    show jpre (jpre M2 34 _ 8) 35 _ 8 34 _ = _
    rw [jpre_ne (by decide), jpre_lo hu]
  have s3 : ∀ i : Nat, i < 2 ^ kn k - 1 → EV (d + 3) T_X8_learn 3 [some (jR 29), none, none, some (jI (i + 1 : Nat))] [] (G30 (i + 1)) = EV (d + 3) T_X8_learn 3 [some (jR 29), none, none, some (jI (i + 2 : Nat))] [] (G30 (i + 2)) := by
    intro i hi
    have hle : (i + 1) &&& i < i + 1 := Nat.lt_of_le_of_lt Nat.and_le_right (by omega)
    have hsub : ∀ b, ((i + 1) &&& i).testBit b = true → (i + 1).testBit b = true := fun b hb => by
      rw [Nat.testBit_and, Bool.and_eq_true] at hb
      exact hb.1
    rw [e_X8_learn_3, hsets _ (m3 _), bI_r, if_pos (by omega), and_pred (by omega) (by omega), Nat.add_sub_cancel, gd_t (by omega), w_s _ (by omega)]
    have hrd : G30 (i + 1) 30 (((i + 1) &&& i : Nat) : Int) = if stk k w ((i + 1) &&& i) then 1 else 0 := jpre_lo hle
    rw [hrd]
    have fin : ∀ v : Int, v = (if stk k w (i + 1) then 1 else 0) → jup (G30 (i + 1)) 30 (i + 1 : Nat) v = G30 (i + 2) := fun v hv => by
      subst hv
      exact jpre_s M3 30 (fun s => if stk k w s then 1 else 0) (i + 1) rfl
    cases hz : stk k w ((i + 1) &&& i) with
    | false =>
      have hz2 : stk k w (i + 1) = false := by
        cases h9 : stk k w (i + 1) with
        | false => rfl
        | true => rw [stk_mono hsub h9] at hz; cases hz
      refine (if_pos rfl).trans ?_
      rw [gd_t (by omega), gd_t (by decide), fin 0 (by rw [hz2]; rfl)]
    | true =>
      refine (if_neg (by decide)).trans ?_
      rw [c_X8_isStocked _ hk.1 h.2.1 (m34 _) (i + 1) (by omega), bI_r]
      cases hz2 : stk k w (i + 1) with
      | false =>
        refine (if_pos rfl).trans ?_
        rw [gd_t (by omega), gd_t (by decide), fin 0 (by rw [hz2]; rfl)]
      | true =>
        refine (if_neg (by decide)).trans ?_
        rw [gd_t (by omega), gd_t (by decide), fin 1 (by rw [hz2]; rfl)]
  have h2p := Nat.two_pow_pos (kn k)
  refine ⟨G30 (2 ^ kn k), ?_, fun q h1 h2 h3 h4 h5 => (g30 _ q h2).trans ((g3 8 q h4 h5).trans ((m2 q h3).trans (f1 q h1))), fun j h1 h2 h3 => ?_, hk.1, h.2.1, by rw [m3]; exact v6, by rw [m3]; exact v7, by rw [m3]; exact v8, fun x hx => ?_, ?_, fun u hu => m34 _ u hu, fun s hs => jpre_lo hs⟩
  · rw [e_X8_learn]
    rw [e_X1_dishes, bI_r, hk.2.1, c_X1_hotDishes _ (KI_cg hk (fun q h1 h2 => jup_ne (by omega))), bI_r, cd_t l1]
    have lj : LI (jup (jup μ 29 6 (kn k : Int)) 29 7 (khot k : Int)) p w := LI_cg h (by rw [jup_ne hpl.1, jup_ne hpl.1]) (by rw [jup_ne hpl.2.2.2.2.2.1, jup_ne hpl.2.2.2.2.2.1])
    rw [c_X2_heat _ lj, bI_r]
    have tail : EV (d + 3) T_X8_learn 1 [some (jR 29), some (jR 3), some (jR p), some (jI 0)] [] M1 = rV (G30 (2 ^ kn k)) := by
      refine Eq.trans ?_ ((lp_0 (fun i : Nat => EV (d + 3) T_X8_learn 1 [some (jR 29), some (jR 3), some (jR p), some (jI i)] [] (G32 i)) (kn k) s1).trans ?_)
      · show _ = EV _ _ _ _ _ (jpre M1 32 _ 0)
        rw [jpre_0]
        rfl
      · rw [e_X8_learn_1, g32, v6, if_neg (by omega), gd_t (by decide)]
        refine Eq.trans ?_ ((lp_0 (fun i : Nat => EV (d + 3) T_X8_learn 2 [some (jR 29), some (jR 3), some (jR p), some (jI i)] [] (G3 i)) 8 s2).trans ?_)
        · show EV _ _ _ _ _ M2 = EV _ _ _ _ _ (jpre (jpre M2 34 _ 0) 35 _ 0)
          rw [jpre_0, jpre_0]
          rfl
        · rw [e_X8_learn_2, if_neg (by decide), gd_t (by decide), gd_t (by decide)]
          refine Eq.trans ?_ ((lp_0 (fun i : Nat => EV (d + 3) T_X8_learn 3 [some (jR 29), none, none, some (jI (i + 1 : Nat))] [] (G30 (i + 1))) (2 ^ kn k - 1) s3).trans ?_)
          · have e9 : jup M3 30 0 1 = G30 1 := by
              have h9 := jpre_s M3 30 (fun s => if stk k w s then 1 else 0) 0 (v := 1) (by rw [stk_0]; rfl)
              rw [jpre_0] at h9
              exact h9
            show EV _ _ _ _ _ (jup M3 30 0 1) = _
            rw [e9]
            rfl
          · have e8 : 2 ^ kn k - 1 + 1 = 2 ^ kn k := by omega
            rw [e8, e_X8_learn_3, hsets _ (m3 _), bI_r, if_neg (by omega)]
    by_cases he : lhe w = 1
    · rw [if_pos (by omega), gd_t (by decide)]
      have : M1 = jup (jup (jup μ 29 6 (kn k : Int)) 29 7 (khot k : Int)) 29 8 1 := by
        show jup _ _ _ (if lhe w = 1 then 1 else 0) = _
        rw [if_pos he]
      rw [← this]
      exact tail
    · rw [if_neg (by omega), gd_t (by decide)]
      have : M1 = jup (jup (jup μ 29 6 (kn k : Int)) 29 7 (khot k : Int)) 29 8 0 := by
        show jup _ _ _ (if lhe w = 1 then 1 else 0) = _
        rw [if_neg he]
      rw [← this]
      exact tail
  · rw [m3]
    show jup (jup (jup μ 29 6 _) 29 7 _) 29 8 _ 29 j = _
    rw [jup_m h3, jup_m h2, jup_m h1]
  · rw [g30 _ 32 (by decide)]
    show G3 8 32 _ = _
    rw [g3 8 32 (by decide) (by decide)]
    show jup (G32 (kn k)) 32 10 2047 32 _ = _
    rw [jup_m (by omega)]
    exact jpre_lo hx
  · rw [g30 _ 32 (by decide)]
    show G3 8 32 _ = _
    rw [g3 8 32 (by decide) (by decide)]
    exact jup_r _ _ _ _
