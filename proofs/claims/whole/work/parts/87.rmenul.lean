/-! ## a MENU laid down: the reference -/
theorem sgb_63 {c : Nat} (_ : c < 256) : sgb c = 63 ↔ c = 63 := by
  unfold sgb
  split <;> omega
theorem sgb_r {c n : Nat} (_ : c < 256) (h : n ≤ 10) : (65 ≤ sgb c ∧ sgb c ≤ 64 + (n : Int)) ↔ (65 ≤ c ∧ c < 65 + n) := by
  unfold sgb
  split <;> omega
theorem t256 {t : List Nat} (h : ∀ c ∈ t, c < 256) {i : Nat} (hi : i < t.length) : t.getD i 0 < 256 := h _ (by rw [List.getD_eq_getElem?_getD, List.getElem?_eq_getElem hi]; exact List.getElem_mem hi)
theorem c_X12_menu (d : Nat) {μ : jM} {k : Kt} {M : Mn} {t : List Nat} (hk : KR μ k) (hM : MR μ M) (ht : TR μ t) (x : Int) : ∃ μ', CL (d + 3) 249 [jR 69, jI x] μ = rI (mnA k t x) μ' ∧ ((∀ q, q ≠ 69 → q ≠ 78 → q ≠ 79 → μ' q = μ q) ∧ ∀ j : Int, j ≠ 17 → (j < 20 ∨ 25 < j) → μ' 69 j = μ 69 j) ∧ MR μ' (mnM k t M x) ∧ TR μ' [] := by
  have h10 := hk.1.1
  obtain ⟨h1, h2, h3, h4⟩ := ht
  let m1 : jM := jup (jup (jup (jup (jup (jup (jup μ 69 20 0) 69 21 (80 : Nat)) 69 22 (t.length : Nat)) 69 23 10) 69 24 0) 69 25 (-1)) 69 17 0
  have e17 : jup μ 69 20 0 69 17 = (t.length : Int) := (jup_m (by decide)).trans h3
  have n1 : ∀ q, q ≠ 69 → m1 q = μ q := fun q hq => by
    show jup (jup (jup (jup (jup (jup (jup μ 69 20 0) 69 21 _) 69 22 _) 69 23 10) 69 24 0) 69 25 (-1)) 69 17 0 q = _
    rw [jup_ne hq, jup_ne hq, jup_ne hq, jup_ne hq, jup_ne hq, jup_ne hq, jup_ne hq]
  have j1 : ∀ j : Int, j ≠ 17 → (j < 20 ∨ 25 < j) → m1 69 j = μ 69 j := fun j a b => by
    show jup (jup (jup (jup (jup (jup (jup μ 69 20 0) 69 21 _) 69 22 _) 69 23 10) 69 24 0) 69 25 (-1)) 69 17 0 69 j = _
    rw [jup_m a, jup_m (by omega), jup_m (by omega), jup_m (by omega), jup_m (by omega), jup_m (by omega), jup_m (by omega)]
  have v17 : m1 69 17 = 0 := jup_r _ _ _ _
  have v21 : m1 69 21 = ((80 : Nat) : Int) := (jup_m (by decide)).trans ((jup_m (by decide)).trans ((jup_m (by decide)).trans ((jup_m (by decide)).trans ((jup_m (by decide)).trans (jup_r _ _ _ _)))))
  have v22 : m1 69 22 = (t.length : Int) := (jup_m (by decide)).trans ((jup_m (by decide)).trans ((jup_m (by decide)).trans ((jup_m (by decide)).trans (jup_r _ _ _ _))))
  have v23 : m1 69 23 = 10 := (jup_m (by decide)).trans ((jup_m (by decide)).trans ((jup_m (by decide)).trans (jup_r _ _ _ _)))
  have v24 : m1 69 24 = 0 := (jup_m (by decide)).trans ((jup_m (by decide)).trans (jup_r _ _ _ _))
  have v25 : m1 69 25 = -1 := (jup_m (by decide)).trans (jup_r _ _ _ _)
  have t0 : ∀ m : jM, m 69 17 = 0 → TR m [] := fun m h => ⟨by decide, fun c hc => (by cases hc), h, fun i hi => absurd hi (Nat.not_lt_zero i)⟩
  rw [e_X12_menu, e17, e_X12_begin, bV_r, c_X12_in, bI_r]
  show ∃ μ', (if (if 0 ≤ x ∧ x ≤ 2 then (1 : Int) else 0) = 0 then rI (-100) m1 else EV (d + 2) T_X12_menu 1 [some (jR 69), some (jI x), none] [] m1) = _ ∧ _
  unfold mnA mnM
  by_cases hx : 0 ≤ x ∧ x < 3
  · obtain ⟨i, rfl⟩ := Int.eq_ofNat_of_zero_le hx.1
    have hi : i < 3 := by omega
    have hle := mrb_le k t
    rw [if_pos (show 0 ≤ (i : Int) ∧ (i : Int) ≤ 2 by omega), if_neg (by decide), if_pos hx, Int.toNat_natCast]
    -- what stands while it reads
    let I : Nat → jM → Prop := fun z m => (∀ q, q ≠ 69 → m q = μ q) ∧ (∀ j : Int, j ≠ 24 → m 69 j = m1 69 j) ∧ m 69 24 = (z : Int)
    have good : ∀ z, z < mrb k t → mok (kn k) (tch t z) = true := fun z hz => by
      have := (fs_spec (fun i => !mok (kn k) (tch t i)) t.length).2.1 z hz
      simpa using this
    have here : ∀ z m, I z m → z < t.length → z < 10 → ∀ d, CL (d + 1) 215 [jR 69] m = rI (sgb (t.getD z 0)) m := fun z m h a b d => by
      rw [e_X12_here, h.2.2, h.2.1 22 (by decide), v22, h.2.1 23 (by decide), v23, if_pos (by omega), if_pos (by omega), h.2.1 21 (by decide), v21, gd_t (by omega), Int.toNat_natCast, cd_t (show KD 80 = 21 by decide), gd_t ⟨by omega, by rw [show LN 80 = 80 by decide]; omega⟩, h.1 80 (by decide), h4 z a]
    have fine : ∀ (m : jM) d, m 69 25 = -1 → CL (d + 1) 216 [jR 69] m = rI 1 m := fun m d h => by
      rw [e_X12_fine, h, if_pos rfl, gd_t (by omega)]
    have lost : ∀ (m : jM) d, m 69 25 ≠ -1 → CL (d + 1) 216 [jR 69] m = rI 0 m := fun m d h => by
      rw [e_X12_fine, if_neg h, gd_t (by omega)]
    have b25 : ∀ z m, I z m → m 69 25 = -1 := fun z m h => (h.2.1 25 (by decide)).trans v25
    have dn : ∀ z m, I z m → m 69 1 = (kn k : Int) := fun z m h => (h.2.1 1 (by decide)).trans ((j1 1 (by decide) (by decide)).trans hk.2.1)
    obtain ⟨m2, e2, i2⟩ := lp_i (fun (z : Nat) (m : jM) => EV (d + 2) T_X12_menu 1 [some (jR 69), some (jI i), none] [] m) (fun z m => I z m) (mrb k t) (fun z m hz h => by
      have h : I z m := h
      have hg := good z hz
      have hzl : z < t.length ∧ z < 10 := by
        by_cases q : z < t.length ∧ z < 10
        · exact q
        · unfold tch at hg
          rw [if_neg q] at hg
          unfold mok at hg
          simp at hg
      have h256 := t256 h2 hzl.1
      have hs : 65 + (kn k : Int) - 1 = 64 + (kn k : Int) := by omega
      refine ⟨jup m 69 24 ((z + 1 : Nat) : Int), ?_, fun q hq => (jup_ne hq).trans (h.1 q hq), fun j hj => (jup_m hj).trans (h.2.1 j hj), jup_r _ _ _ _⟩
      show EV (d + 2) T_X12_menu 1 [some (jR 69), some (jI i), none] [] m = EV (d + 2) T_X12_menu 1 [some (jR 69), some (jI i), none] [] _
      rw [e_X12_menu_1, fine m _ (b25 z m h), bI_r, if_neg (by decide), h.2.2, h.2.1 22 (by decide), v22, if_pos (by omega), h.2.1 23 (by decide), v23, if_pos (by omega), here z m h hzl.1 hzl.2, bI_r, dn z m h, w_id (x := 65 + (kn k : Int)) (by omega) (by omega), w_id (x := 65 + (kn k : Int) - 1) (by omega) (by omega), hs]
      have fin : EV (d + 2) T_X12_menu 2 [some (jR 69), some (jI i), none] [] m = EV (d + 2) T_X12_menu 1 [some (jR 69), some (jI i), none] [] (jup m 69 24 ((z + 1 : Nat) : Int)) := by
        rw [e_X12_menu_2, e_X12_menu_3, h.2.2, w_s z (by omega)]
      unfold tch at hg
      rw [if_pos hzl] at hg
      unfold mok at hg
      rw [Bool.or_eq_true, decide_eq_true_eq, decide_eq_true_eq] at hg
      by_cases h63 : t.getD z 0 = 63
      · rw [if_pos ((sgb_63 h256).mpr h63)]
        exact fin
      · rw [if_neg (fun q => h63 ((sgb_63 h256).mp q)), c_X12_in, bI_r, if_pos ((sgb_r h256 h10).mpr (by omega)), if_neg (by decide)]
        exact fin) m1 ⟨n1, fun _ _ => rfl, v24⟩
    have i2 : I (mrb k t) m2 := i2
    have e2 : EV (d + 2) T_X12_menu 1 [some (jR 69), some (jI i), none] [] m1 = EV (d + 2) T_X12_menu 1 [some (jR 69), some (jI i), none] [] m2 := e2
    rw [e2]
    -- a fault: the answer tells where
    have bad : ∀ m : jM, m 69 25 = (mrb k t : Int) → m 69 24 = (mrb k t : Int) → EV (d + 2) T_X12_menu 4 [some (jR 69), some (jI i), none] [] m = rI (-1 - (mrb k t : Int)) m := fun m a b => by
      have hl : m 69 25 ≠ -1 := by omega
      have hf : ∀ (v : Int) d, CL (d + 2) 217 [jR 69, jI v] m = rV m := fun v d => by
        rw [e_X12_fault, lost m _ hl, bI_r, if_pos rfl]
      have h5 : EV (d + 2) T_X12_menu 5 [some (jR 69), some (jI i), none] [] m = rI (-1 - (mrb k t : Int)) m := by
        rw [e_X12_menu_5, lost m _ hl, bI_r, if_pos rfl, a, w_id (by omega) (by omega)]
      rw [e_X12_menu_4]
      by_cases q : m 69 24 < m 69 22
      · rw [if_pos q, hf, bV_r, h5]
      · rw [if_neg q, h5]
    have pic : (∀ q, q ≠ 69 → jup m2 69 25 (mrb k t : Int) q = μ q) ∧ (∀ j : Int, j ≠ 17 → (j < 20 ∨ 25 < j) → jup m2 69 25 (mrb k t : Int) 69 j = μ 69 j) ∧ jup m2 69 25 (mrb k t : Int) 69 17 = 0 := ⟨fun q hq => (jup_ne hq).trans (i2.1 q hq), fun j a b => (jup_m (by omega)).trans ((i2.2.1 j (by omega)).trans (j1 j a b)), (jup_m (by decide)).trans ((i2.2.1 17 (by decide)).trans v17)⟩
    have fault : ∀ d, CL (d + 2) 217 [jR 69, jI (mrb k t : Nat)] m2 = rV (jup m2 69 25 (mrb k t : Int)) := fun d => by
      rw [e_X12_fault, fine m2 _ (b25 _ m2 i2), bI_r, if_neg (by decide)]
    have v25b : jup m2 69 25 (mrb k t : Int) 69 25 = (mrb k t : Int) := jup_r _ _ _ _
    have v24b : jup m2 69 25 (mrb k t : Int) 69 24 = (mrb k t : Int) := (jup_m (by decide)).trans i2.2.2
    by_cases hb : mrb k t < t.length
    · rw [if_pos hb, if_neg (show ¬ ((0 ≤ (i : Int) ∧ (i : Int) < 3) ∧ ¬ mrb k t < t.length) from fun z => z.2 hb)]
      refine ⟨jup m2 69 25 (mrb k t : Int), ?_, ⟨fun q a _ _ => pic.1 q a, pic.2.1⟩, MR_cg hM (pic.1 79 (by decide)) (pic.1 78 (by decide)), t0 _ pic.2.2⟩
      have hP := (fs_spec (fun i => !mok (kn k) (tch t i)) t.length).2.2 hb
      have hP : (!mok (kn k) (tch t (mrb k t))) = true := hP
      rw [e_X12_menu_1, fine m2 _ (b25 _ m2 i2), bI_r, if_neg (by decide), i2.2.2, i2.2.1 22 (by decide), v22, if_pos (by omega), i2.2.1 23 (by decide), v23]
      by_cases hb10 : mrb k t < 10
      · have h256 := t256 h2 hb
        have hs : 65 + (kn k : Int) - 1 = 64 + (kn k : Int) := by omega
        unfold tch at hP
        rw [if_pos ⟨hb, hb10⟩] at hP
        unfold mok at hP
        rw [Bool.not_eq_true', Bool.or_eq_false_iff, decide_eq_false_iff_not, decide_eq_false_iff_not] at hP
        rw [if_pos (by omega), here _ m2 i2 hb hb10, bI_r, if_neg (fun q => hP.1 (by have := (sgb_63 h256).mp q; omega)), dn _ m2 i2, w_id (x := 65 + (kn k : Int)) (by omega) (by omega), w_id (x := 65 + (kn k : Int) - 1) (by omega) (by omega), hs, c_X12_in, bI_r, if_neg (show ¬ (65 ≤ sgb (t.getD (mrb k t) 0) ∧ sgb (t.getD (mrb k t) 0) ≤ 64 + (kn k : Int)) from fun q => hP.2 (by have := (sgb_r h256 h10).mp q; omega)), if_pos rfl, i2.2.2, fault, bV_r, e_X12_menu_3, e_X12_menu_1, lost _ _ (by rw [v25b]; omega), bI_r, if_pos rfl]
        exact bad _ v25b v24b
      · have h5 : EV (d + 2) T_X12_menu 5 [some (jR 69), some (jI i), none] [] (jup m2 69 25 (mrb k t : Int)) = rI (-1 - (mrb k t : Int)) (jup m2 69 25 (mrb k t : Int)) := by
          rw [e_X12_menu_5, lost _ _ (by rw [v25b]; omega), bI_r, if_pos rfl, v25b, w_id (by omega) (by omega)]
        rw [if_neg (by omega), e_X12_menu_4, i2.2.2, i2.2.1 22 (by decide), v22, if_pos (by omega), fault, bV_r, h5]
    · have hl10 := mrb_10 hb
      have heq : mrb k t = t.length := by omega
      have hml : (mrl t).length = t.length := mkl_len _ _
      rw [if_neg hb, if_pos (show (0 ≤ (i : Int) ∧ (i : Int) < 3) ∧ ¬ mrb k t < t.length from ⟨hx, hb⟩)]
      obtain ⟨m3, e3, w3⟩ := lp_i (fun (z : Nat) (m : jM) => EV (d + 2) T_X12_menu 6 [some (jR 69), some (jI i), some (jI z)] [] m) (fun z m => wr m2 78 (10 * i) (fun j => u99 ((mrl t).getD j 10)) z m) t.length (fun z m hz h => by
        have h : wr m2 78 (10 * i) (fun j => u99 ((mrl t).getD j 10)) z m := h
        have hgl : (mrl t).getD z 10 = if t.getD z 0 = 63 then 10 else t.getD z 0 - 65 := by
          unfold mrl
          rw [mkl_at, if_pos hz]
        have hc := mrb_c h10 hb hz
        have h256 := t256 h2 hz
        have e80 : m 80 (z : Int) = sgb (t.getD z 0) := by
          rw [h.1 80 (by decide), i2.1 80 (by decide)]
          exact h4 z hz
        have l22 : m 69 22 = (t.length : Int) := by
          rw [h.1 69 (by decide), i2.2.1 22 (by decide)]
          exact v22
        refine ⟨_, ?_, wr_s h rfl⟩
        show EV (d + 2) T_X12_menu 6 [some (jR 69), some (jI i), some (jI z)] [] m = _
        rw [e_X12_menu_6, l22, if_pos (by omega), gd_t (by omega), e80, ix10 i z hi (by omega), w_s z (by omega)]
        by_cases h63 : t.getD z 0 = 63
        · rw [if_pos h63] at hgl
          rw [if_pos ((sgb_63 h256).mpr h63), gd_t (by omega), hgl]
          rfl
        · rw [if_neg h63] at hgl
          have hsg : sgb (t.getD z 0) = (t.getD z 0 : Int) := if_pos (by omega)
          have hu : u99 (t.getD z 0 - 65) = (t.getD z 0 : Int) - 65 := by
            unfold u99
            rw [if_neg (by omega)]
            omega
          rw [if_neg (fun q => h63 ((sgb_63 h256).mp q)), gd_t (by omega), gd_t (by omega), hsg, w_id (by omega) (by omega), hgl, hu]) m2 (wr_0 _ _ _ _)
      have w3 : wr m2 78 (10 * i) (fun j => u99 ((mrl t).getD j 10)) t.length m3 := w3
      have q3 : ∀ q, q ≠ 69 → q ≠ 78 → m3 q = μ q := fun q a b => (w3.1 q b).trans (i2.1 q a)
      have s3 : m3 69 = m2 69 := w3.1 69 (by decide)
      have l22 : m3 69 22 = (t.length : Int) := by rw [s3, i2.2.1 22 (by decide)]; exact v22
      let m4 : jM := jup m3 79 (i : Int) (t.length : Nat)
      have s4 : m4 69 = m2 69 := (jup_ne (by decide)).trans s3
      refine ⟨m4, ?_, ⟨fun q a b c => (jup_ne c).trans (q3 q a b), fun j a b => by rw [s4, i2.2.1 j (by omega)]; exact j1 j a b⟩, fun y hy => ?_, t0 _ (by rw [s4, i2.2.1 17 (by decide)]; exact v17)⟩
      · rw [e_X12_menu_1, fine m2 _ (b25 _ m2 i2), bI_r, if_neg (by decide), i2.2.2, i2.2.1 22 (by decide), v22, if_neg (by omega), e_X12_menu_4, i2.2.2, i2.2.1 22 (by decide), v22, if_neg (by omega), e_X12_menu_5, fine m2 _ (b25 _ m2 i2), bI_r, if_neg (by decide)]
        refine Eq.trans e3 ?_
        show EV (d + 2) T_X12_menu 6 [some (jR 69), some (jI i), some (jI t.length)] [] m3 = _
        rw [e_X12_menu_6, l22, if_neg (by omega), gd_t (by omega), jup_ne (show (69 : Nat) ≠ 79 by decide), l22]
      · obtain ⟨y1, y2, y3⟩ := hM y hy
        unfold mput
        by_cases hyi : y = i
        · rw [if_pos hyi, hyi]
          refine ⟨by rw [hml]; exact hl10, by rw [hml]; exact jup_r _ _ _ _, fun j hj => ?_⟩
          rw [hml] at hj
          show jup m3 79 (i : Int) _ 78 _ = _
          rw [jup_ne (by decide), wr_i w3 hj]
        · rw [if_neg hyi]
          refine ⟨y1, ?_, fun j hj => ?_⟩
          · show jup m3 79 (i : Int) _ 79 (y : Int) = _
            rw [jup_m (by omega), q3 79 (by decide) (by decide)]
            exact y2
          · show jup m3 79 (i : Int) _ 78 _ = _
            rw [jup_ne (by decide), wr_o w3 (by omega), i2.1 78 (by decide)]
            exact y3 j hj
  · rw [if_neg (show ¬ (0 ≤ x ∧ x ≤ 2) by omega), if_pos rfl, if_neg hx, if_neg (show ¬ ((0 ≤ x ∧ x < 3) ∧ ¬ mrb k t < t.length) from fun z => hx z.1)]
    exact ⟨m1, rfl, ⟨fun q a _ _ => n1 q a, j1⟩, MR_cg hM (n1 79 (by decide)) (n1 78 (by decide)), t0 _ v17⟩
