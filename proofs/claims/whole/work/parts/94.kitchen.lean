/-! ## the kitchen told: the reference's LINES, one after the other -/
def fRK (ν' ν : jM) : Prop := (∀ q, q ≠ 69 → (q < 71 ∨ 76 < q) → ν' q = ν q) ∧ ∀ j : Int, j ≠ 1 → j ≠ 6 → j ≠ 24 → j ≠ 25 → j ≠ 49 → ν' 69 j = ν 69 j
theorem fRK_k {ν' ν : jM} (h : fRk ν' ν) : fRK ν' ν := ⟨h.1, fun j _ _ a b _ => h.2 j a b⟩
theorem fRK_t {ν1 ν2 ν3 : jM} (h1 : fRK ν2 ν1) (h2 : fRK ν3 ν2) : fRK ν3 ν1 := ⟨fun q a b => (h2.1 q a b).trans (h1.1 q a b), fun j a b c d e => (h2.2 j a b c d e).trans (h1.2 j a b c d e)⟩
def KpR (E : Option jO) (ν : jM) (k0 : Kt) (x : Nat ⊕ (Kt × Nat)) : Prop :=
  (∀ q, x = Sum.inl q → ∃ ν', E = rI (-1 - (q : Int)) ν' ∧ fRK ν' ν ∧ KR ν' k0 ∧ ν' 69 49 = ν 69 49) ∧
  ∀ z, x = Sum.inr z → ∃ ν', E = rI (z.2 : Int) ν' ∧ fRK ν' ν ∧ KR ν' z.1 ∧ ν' 69 49 = if kn k0 < kn z.1 then w32 (ν 69 49 + 1) else ν 69 49
theorem KpR_t {E : Option jO} {ν ν1 : jM} {k0 : Kt} {x : Nat ⊕ (Kt × Nat)} (f : fRk ν1 ν) (h : KpR E ν1 k0 x) : KpR E ν k0 x := by
  have e49 : ν1 69 49 = ν 69 49 := f.2 49 (by decide) (by decide)
  refine ⟨fun q hq => ?_, fun z hz => ?_⟩
  · obtain ⟨ν', a, b, c, e⟩ := h.1 q hq
    exact ⟨ν', a, fRK_t (fRK_k f) b, c, e.trans e49⟩
  · obtain ⟨ν', a, b, c, e⟩ := h.2 z hz
    rw [e49] at e
    exact ⟨ν', a, fRK_t (fRK_k f) b, c, e⟩
theorem KpR_l {E : Option jO} {ν ν' : jM} {k0 k : Kt} {q : Nat} (h0 : Kok k0) (e : E = rI (-1 - (q : Int)) ν') (f : fRk ν' ν) (hD : DR ν' k0 k) : KpR E ν k0 (Sum.inl q) := ⟨fun q' hq => by
  cases hq
  exact ⟨ν', e, fRK_k f, DR_KR hD h0, f.2 49 (by decide) (by decide)⟩, fun z hz => by cases hz⟩
/-- behind a LINE that is right -/
theorem c_kit_next (d : Nat) {ν : jM} {t : List Nat} {k0 k : Kt} (h0 : Kok k0) (h : RB ν 80 t 76) (hD : DR ν k0 k) (q n : Nat) (hq : q ≤ 76) (hn : n ≤ 80) (hp : ν 69 24 = (q : Int)) (h25 : ν 69 25 = -1) :
    (tcb t 76 q = 59 → EV (d + 4) T_X12_kitchen 3 [some (jR 69), some (jI (kn k)), some (jI (kg k)), some (jI n), none] [] ν = EV (d + 4) T_X12_kitchen 1 [some (jR 69), some (jI (kn k)), some (jI (kg k)), some (jI ((n + 1 : Nat) : Int)), some (jI 1)] [] (jup ν 69 24 ((q + 1 : Nat) : Int))) ∧
    (tcb t 76 q ≠ 59 → KpR (EV (d + 4) T_X12_kitchen 3 [some (jR 69), some (jI (kn k)), some (jI (kg k)), some (jI n), none] [] ν) ν k0 (if q < t.length then Sum.inl q else Sum.inr (k, n + 1))) := by
  rw [e_X12_kitchen_3, c_X12_passes _ h q hp h25 59 (by decide)]
  refine ⟨fun hc => ?_, fun hc => ?_⟩
  · rw [if_pos hc, bI_r, w_s n (by omega)]
  · have h22 := h.2.2.1
    rw [if_neg hc, bI_r, w_s n (by omega), e_X12_kitchen_1, if_pos rfl, e_X12_kitchen_4, hp, h22]
    by_cases hl : q < t.length
    · rw [if_pos (by omega), if_pos hl, c_X12_fault _ h25, bV_r, e_X12_kitchen_5, c_X12_fineN _ (by rw [jup_r]; omega), bI_r, if_pos rfl, jup_r, w_id (by omega) (by omega)]
      exact KpR_l h0 rfl (fRk_j (fRk_r ν) (by omega) _) (DR_cg hD (jup_m (by decide)) (jup_m (by decide)) (fun q b1 b2 j hj => jup_e (Or.inl (by omega))) (fun q b1 b2 j hj => jup_e (Or.inl (by omega))))
    · have h1 : ν 69 1 = (kn k0 : Int) := hD.2.1
      rw [if_neg (by omega), if_neg hl, e_X12_kitchen_5, c_X12_fine _ h25, bI_r, if_neg (by decide), h1]
      refine ⟨fun q' hq' => (by cases hq'), fun z hz => ?_⟩
      cases hz
      obtain ⟨b1, b2, b3, b4, b5⟩ := hD
      by_cases hk : kn k0 < kn k
      · rw [if_pos (by omega), if_pos hk, e_X12_kitchen_6]
        refine ⟨_, rfl, ⟨fun q a b => (jup_ne a).trans ((jup_ne a).trans (jup_ne a)), fun j c1 c2 c3 c4 c5 => (jup_m c2).trans ((jup_m c1).trans (jup_m c5))⟩, ⟨b1.1, (jup_m (by decide)).trans (jup_r _ _ _ _), jup_r _ _ _ _, fun x hx => ?_, fun g hg => ?_⟩, (jup_m (by decide)).trans ((jup_m (by decide)).trans (jup_r _ _ _ _))⟩
        · rw [jup_ne (by decide), jup_ne (by decide), jup_ne (by decide), jup_ne (show (72 : Nat) ≠ 69 by decide), jup_ne (show (72 : Nat) ≠ 69 by decide), jup_ne (show (72 : Nat) ≠ 69 by decide), jup_ne (show (73 : Nat) ≠ 69 by decide), jup_ne (show (73 : Nat) ≠ 69 by decide), jup_ne (show (73 : Nat) ≠ 69 by decide), jup_ne (show (74 : Nat) ≠ 69 by decide), jup_ne (show (74 : Nat) ≠ 69 by decide), jup_ne (show (74 : Nat) ≠ 69 by decide)]
          exact b4 x hx
        · rw [jup_ne (by decide), jup_ne (by decide), jup_ne (by decide), jup_ne (show (76 : Nat) ≠ 69 by decide), jup_ne (show (76 : Nat) ≠ 69 by decide), jup_ne (show (76 : Nat) ≠ 69 by decide)]
          exact b5 g hg
      · rw [if_neg (by omega), if_neg hk, e_X12_kitchen_6]
        refine ⟨_, rfl, ⟨fun q a b => (jup_ne a).trans (jup_ne a), fun j c1 c2 c3 c4 c5 => (jup_m c2).trans (jup_m c1)⟩, ⟨b1.1, (jup_m (by decide)).trans (jup_r _ _ _ _), jup_r _ _ _ _, fun x hx => ?_, fun g hg => ?_⟩, (jup_m (by decide)).trans (jup_m (by decide))⟩
        · rw [jup_ne (by decide), jup_ne (by decide), jup_ne (show (72 : Nat) ≠ 69 by decide), jup_ne (show (72 : Nat) ≠ 69 by decide), jup_ne (show (73 : Nat) ≠ 69 by decide), jup_ne (show (73 : Nat) ≠ 69 by decide), jup_ne (show (74 : Nat) ≠ 69 by decide), jup_ne (show (74 : Nat) ≠ 69 by decide)]
          exact b4 x hx
        · rw [jup_ne (by decide), jup_ne (by decide), jup_ne (show (76 : Nat) ≠ 69 by decide), jup_ne (show (76 : Nat) ≠ 69 by decide)]
          exact b5 g hg
theorem c_kit (d : Nat) {t : List Nat} {k0 : Kt} (h0 : Kok k0) : ∀ (r n p : Nat) (k : Kt) (ν : jM), RB ν 80 t 76 → DR ν k0 k → ν 69 24 = (p : Int) → ν 69 25 = -1 → 2 * n ≤ p → p ≤ 76 → 38 < r + n → KpR (EV (d + 4) T_X12_kitchen 1 [some (jR 69), some (jI (kn k)), some (jI (kg k)), some (jI n), some (jI 1)] [] ν) ν k0 (kpa (tcb t 76) t.length r k p n) := by
  intro r
  induction r with
  | zero =>
    intro n p k ν h hD hp h25 h1 h2 h3
    omega
  | succ r ih =>
    intro n p k ν h hD hp h25 h1 h2 h3
    have hk := hD.1.1
    -- behind a LINE
    have go : ∀ (z : Kt × Nat) (ν' : jM), ext k0 z.1 → p + 2 ≤ z.2 → z.2 ≤ 76 → fRk ν' ν → DR ν' k0 z.1 → ν' 69 25 = -1 → ν' 69 24 = (z.2 : Int) → KpR (EV (d + 4) T_X12_kitchen 3 [some (jR 69), some (jI (kn z.1)), some (jI (kg z.1)), some (jI n), none] [] ν') ν k0 (if tcb t 76 z.2 = 59 then kpa (tcb t 76) t.length r z.1 (z.2 + 1) (n + 1) else if z.2 < t.length then Sum.inl z.2 else Sum.inr (z.1, n + 1)) := fun z ν' he hz1 hz2 f hD' h25' h24' => by
      have hB' := fRk_RB f h
      obtain ⟨g1, g2⟩ := c_kit_next d h0 hB' hD' z.2 n hz2 (by omega) h24' h25'
      by_cases h59 : tcb t 76 z.2 = 59
      · have l1 := tcb_l (t := t) (B := 76) (i := z.2) (by rw [h59]; decide)
        rw [if_pos h59, g1 h59]
        exact KpR_t (fRk_j f (by omega) _) (ih (n + 1) (z.2 + 1) z.1 _ (RB_69 hB' (by decide) _) (DR_cg hD' (jup_m (by decide)) (jup_m (by decide)) (fun q b1 b2 j hj => jup_e (Or.inl (by omega))) (fun q b1 b2 j hj => jup_e (Or.inl (by omega)))) (jup_r _ _ _ _) ((jup_m (by decide)).trans h25') (by omega) (by omega) (by omega))
      · rw [if_neg h59]
        exact KpR_t f (g2 h59)
    have lost : ∀ (q : Nat) (a1 a2 : Int) (ν' : jM), q ≤ 80 → fRk ν' ν → DR ν' k0 k → ν' 69 25 = (q : Int) → KpR (EV (d + 4) T_X12_kitchen 3 [some (jR 69), some (jI a1), some (jI a2), some (jI n), none] [] ν') ν k0 (Sum.inl q) := fun q a1 a2 ν' hq f hD' h25' => KpR_l h0 (c_kit_lost d a1 a2 n q hq ν' h25') f hD'
    show KpR _ ν k0 (match lin (tcb t 76) k p with
      | Sum.inl q => Sum.inl q
      | Sum.inr z => if tcb t 76 z.2 = 59 then kpa (tcb t 76) t.length r z.1 (z.2 + 1) (n + 1) else if z.2 < t.length then Sum.inl z.2 else Sum.inr (z.1, n + 1))
    have hlin : ∀ z, lin (tcb t 76) k p = Sum.inr z → ext k0 z.1 ∧ p + 2 ≤ z.2 ∧ z.2 ≤ 76 := fun z hz => lin_ok (kc_o t) hD.1 h2 hz
    have flt : KpR (EV (d + 4) T_X12_kitchen 3 [some (jR 69), some (jI (kn k)), some (jI (kg k)), some (jI n), none] [] (jup ν 69 25 (p : Int))) ν k0 (Sum.inl p) := lost p _ _ _ (by omega) (fRk_j (fRk_r ν) (by omega) _) (DR_cg hD (jup_m (by decide)) (jup_m (by decide)) (fun q b1 b2 j hj => jup_e (Or.inl (by omega))) (fun q b1 b2 j hj => jup_e (Or.inl (by omega)))) (jup_r _ _ _ _)
    by_cases h71 : tcb t 76 p = 71
    · have l1 := tcb_l (t := t) (B := 76) (i := p) (by rw [h71]; decide)
      rw [e_X12_kitchen_1, if_neg (by decide), c_X12_fine _ h25, bI_r, if_neg (by decide), c_X12_here _ h p hp, bI_r, if_pos ((hz_e h.2.2.2.2.2.1 76 p (by decide)).mpr h71)]
      by_cases hg : kg k < 6
      · have el : lin (tcb t 76) k p = lnG (tcb t 76) k p := by
          unfold lin
          rw [if_pos h71, if_pos hg]
        rw [if_neg (by omega)]
        rw [el] at hlin ⊢
        have hr := c_X12_readGuest d h hD p hp h25 (by omega) hg
        cases hx : lnG (tcb t 76) k p with
        | inl q =>
          obtain ⟨ν', e1, f1, d1, v1⟩ := hr.1 q hx
          have hq80 : q ≤ 80 := by
            unfold lnG at hx
            obtain ⟨a1, a2, a3, -⟩ := rsF_b (tcb t 76) 76 (kc_o t) 8 0 (p + 1) (by decide) (by omega)
            by_cases h45 : tcb t 76 (rg1 (tcb t 76) p) = 45
            · rw [if_pos h45] at hx
              cases hx
            · rw [if_neg h45] at hx
              cases hx
              exact Nat.le_trans a3 (by decide)
          rw [e1, bV_r, e_X12_kitchen_2]
          exact lost q _ _ ν' hq80 f1 d1 v1
        | inr z =>
          obtain ⟨q1, q2, q3⟩ := hlin z hx
          rcases hr.2 z hx with ⟨hl, ν', e1, f1, d1, v1⟩ | ⟨ν', e1, f1, d1, v1, w1⟩
          · have hl2 := isl_i.mp hl
            have l2 := tcb_l (t := t) (B := 76) (i := z.2) (by omega)
            rw [e1, bV_r, e_X12_kitchen_2]
            show KpR _ ν k0 (if tcb t 76 z.2 = 59 then _ else _)
            rw [if_neg (by omega), if_pos l2.1]
            exact lost z.2 _ _ ν' (by omega) f1 d1 v1
          · have hz1 : z.1 = kaG k (rsF (tcb t 76) 8 0 (p + 1)).1 (rsF (tcb t 76) 8 0 (rg1 (tcb t 76) p + 1)).1 := by
              unfold lnG at hx
              by_cases h45 : tcb t 76 (rg1 (tcb t 76) p) = 45
              · rw [if_pos h45] at hx
                cases hx
                rfl
              · rw [if_neg h45] at hx
                cases hx
            have en : (kn k : Int) = (kn z.1 : Int) := by
              rw [hz1]
              rfl
            have eg : ((kg k + 1 : Nat) : Int) = (kg z.1 : Int) := by
              rw [hz1]
              rfl
            rw [e1, bV_r, e_X12_kitchen_2, w_s (kg k) (by omega), en, eg]
            exact go z ν' q1 q2 q3 f1 d1 v1 w1
      · have el : lin (tcb t 76) k p = Sum.inl p := by
          unfold lin
          rw [if_pos h71, if_neg hg]
        have h6 := hk.2.1
        rw [if_pos (by omega), el, hp, c_X12_fault _ h25, bV_r, e_X12_kitchen_2]
        exact lost p _ _ _ (by omega) (fRk_j (fRk_r ν) (by omega) _) (DR_cg hD (jup_m (by decide)) (jup_m (by decide)) (fun q b1 b2 j hj => jup_e (Or.inl (by omega))) (fun q b1 b2 j hj => jup_e (Or.inl (by omega)))) (jup_r _ _ _ _)
    · by_cases hn : kn k < 10
      · have el : lin (tcb t 76) k p = if isl (tcb t 76 p) then lnD (tcb t 76) k p else Sum.inl p := by
          unfold lin
          rw [if_neg h71, decide_eq_true hn, Bool.and_true]
        rw [el] at hlin ⊢
        obtain ⟨g1, g2⟩ := c_kit_dish d h hD p n hp h25 h2 hn h71
        cases hx : (if isl (tcb t 76 p) then lnD (tcb t 76) k p else Sum.inl p) with
        | inl q =>
          obtain ⟨ν', e1, f1, d1⟩ := g1 q hx
          exact KpR_l h0 e1 f1 d1
        | inr z =>
          obtain ⟨q1, q2, q3⟩ := hlin z hx
          obtain ⟨ν', e1, f1, d1, v1, w1⟩ := g2 z hx
          rw [e1]
          exact go z ν' q1 q2 q3 f1 d1 v1 w1
      · have el : lin (tcb t 76) k p = Sum.inl p := by
          unfold lin
          rw [if_neg h71, decide_eq_false hn, Bool.and_false, if_neg (by decide)]
        have h10 := hk.1
        rw [e_X12_kitchen_1, if_neg (by decide), c_X12_fine _ h25, bI_r, if_neg (by decide), c_X12_here _ h p hp, bI_r, if_neg (fun z => h71 ((hz_e h.2.2.2.2.2.1 76 p (by decide)).mp z)), if_pos (by omega), el, hp, c_X12_fault _ h25, bV_r]
        exact flt
theorem c_X12_kitchen (d : Nat) {μ : jM} {k : Kt} {t : List Nat} (hk : KR μ k) (ht : TR μ t) : ∃ μ', CL (d + 5) 221 [jR 69] μ = rI (kiA k t) μ' ∧ ((∀ q, q ≠ 69 → (q < 71 ∨ 76 < q) → μ' q = μ q) ∧ ∀ j : Int, j ≠ 1 → j ≠ 6 → j ≠ 17 → (j < 20 ∨ 25 < j) → j ≠ 49 → μ' 69 j = μ 69 j) ∧ KR μ' (kiK k t) ∧ TR μ' [] ∧ μ' 69 49 = if kn k < kn (kiK k t) then w32 (μ 69 49 + 1) else μ 69 49 := by
  obtain ⟨h1, h2, h3, h4⟩ := ht
  let m1 : jM := jup (jup (jup (jup (jup (jup (jup μ 69 20 0) 69 21 (80 : Nat)) 69 22 (t.length : Nat)) 69 23 76) 69 24 0) 69 25 (-1)) 69 17 0
  have e17 : jup μ 69 20 0 69 17 = (t.length : Int) := (jup_m (by decide)).trans h3
  have n1 : ∀ q, q ≠ 69 → m1 q = μ q := fun q hq => by
    show jup (jup (jup (jup (jup (jup (jup μ 69 20 0) 69 21 _) 69 22 _) 69 23 76) 69 24 0) 69 25 (-1)) 69 17 0 q = _
    rw [jup_ne hq, jup_ne hq, jup_ne hq, jup_ne hq, jup_ne hq, jup_ne hq, jup_ne hq]
  have j1 : ∀ j : Int, j ≠ 17 → (j < 20 ∨ 25 < j) → m1 69 j = μ 69 j := fun j a b => by
    show jup (jup (jup (jup (jup (jup (jup μ 69 20 0) 69 21 _) 69 22 _) 69 23 76) 69 24 0) 69 25 (-1)) 69 17 0 69 j = _
    rw [jup_m a, jup_m (by omega), jup_m (by omega), jup_m (by omega), jup_m (by omega), jup_m (by omega), jup_m (by omega)]
  have v17 : m1 69 17 = 0 := jup_r _ _ _ _
  have v21 : m1 69 21 = ((80 : Nat) : Int) := (jup_m (by decide)).trans ((jup_m (by decide)).trans ((jup_m (by decide)).trans ((jup_m (by decide)).trans ((jup_m (by decide)).trans (jup_r _ _ _ _)))))
  have v22 : m1 69 22 = (t.length : Int) := (jup_m (by decide)).trans ((jup_m (by decide)).trans ((jup_m (by decide)).trans ((jup_m (by decide)).trans (jup_r _ _ _ _))))
  have v23 : m1 69 23 = 76 := (jup_m (by decide)).trans ((jup_m (by decide)).trans ((jup_m (by decide)).trans (jup_r _ _ _ _)))
  have v24 : m1 69 24 = 0 := (jup_m (by decide)).trans ((jup_m (by decide)).trans (jup_r _ _ _ _))
  have v25 : m1 69 25 = -1 := (jup_m (by decide)).trans (jup_r _ _ _ _)
  have t0 : ∀ m : jM, m 69 17 = 0 → TR m [] := fun m h => ⟨by decide, fun c hc => (by cases hc), h, fun i hi => absurd hi (Nat.not_lt_zero i)⟩
  have hk1 : KR m1 k := KR_cg hk (fun q a b => n1 q (by omega)) (j1 1 (by decide) (by decide)) (j1 6 (by decide) (by decide))
  have hB1 : RB m1 80 t 76 := ⟨Or.inl rfl, v21, v22, v23, by rw [show LN 80 = 80 by decide]; omega, h2, fun i hi => by rw [n1 80 (by decide)]; exact h4 i hi⟩
  have hD1 : DR m1 k k := ⟨ext_r hk.1, hk1.2.1, hk1.2.2.1, hk1.2.2.2.1, hk1.2.2.2.2⟩
  have head : CL (d + 5) 221 [jR 69] μ = if (t.length : Int) = 0 then rI 0 m1 else EV (d + 4) T_X12_kitchen 1 [some (jR 69), some (jI (kn k)), some (jI (kg k)), some (jI 0), some (jI 1)] [] m1 := by
    rw [e_X12_kitchen, e17, e_X12_begin, bV_r]
    show (if m1 69 22 = 0 then rI 0 m1 else EV (d + 4) T_X12_kitchen 1 [some (jR 69), some (jI (m1 69 1)), some (jI (m1 69 6)), some (jI 0), some (jI 1)] [] m1) = _
    rw [v22, hk1.2.1, hk1.2.2.1]
  rw [head]
  unfold kiA kiK kiP
  by_cases hz : t.length = 0
  · rw [if_pos (by omega), if_pos hz]
    refine ⟨m1, rfl, ⟨fun q a _ => n1 q a, fun j _ _ a b _ => j1 j a b⟩, hk1, t0 _ v17, ?_⟩
    show m1 69 49 = if kn k < kn k then _ else _
    rw [if_neg (Nat.lt_irrefl _)]
    exact j1 49 (by decide) (by decide)
  · have key := c_kit d hk.1 39 0 0 k m1 hB1 hD1 v24 v25 (by decide) (by decide) (by decide)
    rw [if_neg (by omega), if_neg hz]
    have key : KpR (EV (d + 4) T_X12_kitchen 1 [some (jR 69), some (jI (kn k)), some (jI (kg k)), some (jI 0), some (jI 1)] [] m1) m1 k (kpa (tcb t 76) t.length 39 k 0 0) := key
    have e49 : m1 69 49 = μ 69 49 := j1 49 (by decide) (by decide)
    cases hx : kpa (tcb t 76) t.length 39 k 0 0 with
    | inl q =>
      obtain ⟨μ', e, f, kr, c⟩ := key.1 q hx
      refine ⟨μ', e, ⟨fun q a b => (f.1 q a b).trans (n1 q a), fun j a b c d e => (f.2 j a b (by omega) (by omega) e).trans (j1 j c d)⟩, kr, t0 _ ((f.2 17 (by decide) (by decide) (by decide) (by decide) (by decide)).trans v17), ?_⟩
      show _ = if kn k < kn k then _ else _
      rw [if_neg (Nat.lt_irrefl _), c, e49]
    | inr z =>
      obtain ⟨μ', e, f, kr, c⟩ := key.2 z hx
      refine ⟨μ', e, ⟨fun q a b => (f.1 q a b).trans (n1 q a), fun j a b c d e => (f.2 j a b (by omega) (by omega) e).trans (j1 j c d)⟩, kr, t0 _ ((f.2 17 (by decide) (by decide) (by decide) (by decide) (by decide)).trans v17), ?_⟩
      rw [c, e49]
/-! ## the kitchen told: the class -/
theorem khs_b {k : Kt} (h : Kok k) (s : Nat) : khs k s < 1024 := by
  have := bm_lt' (fun d => (kst k d).testBit s) h.1
  exact this
theorem c_X1_takeIn (d : Nat) {μ : jM} {k0 k : Kt} (hD : DI μ k0 k) : ∃ μ', CL (d + 1) 23 [jR 3, jI (kn k), jI (kg k)] μ = rV μ' ∧ (∀ q, q < 3 ∨ 10 < q → μ' q = μ q) ∧ KI μ' k := by
  obtain ⟨⟨hk, b1, b2, b3, b4⟩, a2, a3, a4, a5, a6, a7, a8⟩ := hD
  have h10 := hk.1
  have h6 := hk.2.1
  have hsE : ∀ s, khs k0 s = bm (fun d => (kst k d).testBit s) (kn k0) := fun s => bm_cg (fun i hi => by rw [(b3 i hi).1])
  let T : Nat → Nat → Nat := fun n s => bm (fun d => (kst k d).testBit s) n
  let I : Nat → Nat → jM → Prop := fun i s m => (∀ q, q ≠ 10 → m q = μ q) ∧ ∀ y : Nat, y < 8 → m 10 y = ((if y < s then T (kn k0 + i + 1) y else T (kn k0 + i) y : Nat) : Int)
  have hN : kn k0 + (kn k - kn k0) = kn k := by omega
  obtain ⟨m, e1, f1, g1⟩ := lp_tab (fun (i : Nat) (m : jM) => EV d T_X1_takeIn 1 [some (jR 3), some (jI (kn k)), some (jI (kg k)), some (jI ((kn k0 + i : Nat) : Int)), none] [] m) (fun (i s : Nat) (m : jM) => EV d T_X1_takeIn 2 [some (jR 3), some (jI (kn k)), some (jI (kg k)), some (jI ((kn k0 + i : Nat) : Int)), some (jI s)] [] m) (kn k - kn k0) 8 (fun i s m => I i s m) (fun i m hi hI => by
    show EV d T_X1_takeIn 1 _ [] m = _
    rw [e_X1_takeIn_1, if_pos (by omega)]
    rfl) (fun i s m hi hs hI => by
    have hI : I i s m := hI
    have e10 := hI.2 s hs
    rw [if_neg (Nat.lt_irrefl s)] at e10
    have e4 : m 4 ((kn k0 + i : Nat) : Int) = (kst k (kn k0 + i) : Nat) := by
      rw [hI.1 4 (by decide)]
      exact (a6 _ (by omega)).1
    have hst := (hk.2.2.1 (kn k0 + i) (by omega)).2.1
    have hT : T (kn k0 + i) s < 2 ^ 10 := bm_lt' _ (by omega)
    have hp := p2_le (show kn k0 + i ≤ 10 by omega)
    refine ⟨jup m 10 (s : Int) ((T (kn k0 + i + 1) s : Nat) : Int), ?_, fun q hq => (jup_ne hq).trans (hI.1 q hq), fun y hy => ?_⟩
    · show EV d T_X1_takeIn 2 _ [] m = _
      rw [e_X1_takeIn_2, if_pos (by omega), gd_t (by omega), gd_t (by omega), gd_t (by omega), e10, e4, tb_1 _ s (by omega) (by omega), w_s s (by omega)]
      have ev : jor ((T (kn k0 + i) s : Nat) : Int) (jshl (if (kst k (kn k0 + i)).testBit s then 1 else 0) ((kn k0 + i : Nat) : Int)) = ((T (kn k0 + i + 1) s : Nat) : Int) := by
        have := bm_or (fun d => (kst k d).testBit s) (kn k0 + i) (by omega)
        rw [← this]
        cases hb : (kst k (kn k0 + i)).testBit s with
        | true =>
          rw [if_pos rfl, if_pos rfl, shl_1 _ (by omega)]
        | false =>
          have e := shl_n 0 (kn k0 + i) (by omega) (by omega)
          rw [Nat.zero_mul] at e
          rw [if_neg (by decide), if_neg (by decide)]
          rw [show jshl 0 ((kn k0 + i : Nat) : Int) = ((0 : Nat) : Int) from e]
          rfl
      rw [ev]
    · by_cases hys : y = s
      · rw [hys, jup_r, if_pos (by omega)]
      · rw [jup_m (by omega), hI.2 y hy]
        by_cases h : y < s
        · rw [if_pos h, if_pos (by omega)]
        · rw [if_neg h, if_neg (by omega)]) (fun i m hi hI => by
    have hI : I i 8 m := hI
    refine ⟨?_, hI.1, fun y hy => ?_⟩
    · show EV d T_X1_takeIn 2 _ [] m = _
      rw [e_X1_takeIn_2, if_neg (by decide), w_s _ (by omega)]
      rfl
    · rw [hI.2 y hy, if_pos hy, if_neg (Nat.not_lt_zero y)]
      rfl) μ ⟨fun _ _ => rfl, fun y hy => by
      rw [if_neg (Nat.not_lt_zero y), a8 y hy, hsE y]
      rfl⟩
  have g1 : ∀ y : Nat, y < 8 → m 10 y = ((if y < 0 then _ else T (kn k0 + (kn k - kn k0)) y : Nat) : Int) := g1
  have f1 : ∀ q, q ≠ 10 → m q = μ q := f1
  have e1 : EV d T_X1_takeIn 1 [some (jR 3), some (jI (kn k)), some (jI (kg k)), some (jI (kn k0)), none] [] μ = EV d T_X1_takeIn 1 [some (jR 3), some (jI (kn k)), some (jI (kg k)), some (jI ((kn k0 + (kn k - kn k0) : Nat) : Int)), none] [] m := e1
  rw [e_X1_takeIn, a2, a3, if_neg (by omega), if_neg (by omega), if_neg (by omega), if_neg (by omega), e1, hN, e_X1_takeIn_1, if_neg (by omega)]
  refine ⟨_, rfl, fun q hq => (jup_ne (by omega)).trans ((jup_ne (by omega)).trans (f1 q (by omega))), hk, (jup_m (by decide)).trans (jup_r _ _ _ _), jup_r _ _ _ _, fun x hx => ?_, fun g hg => ?_, fun s hs => ?_⟩
  · have ee : ∀ q, q ≠ 3 → q ≠ 10 → ∀ v w : Int, jup (jup m 3 7 v) 3 8 w q = μ q := fun q x1 x2 v w => (jup_ne x1).trans ((jup_ne x1).trans (f1 q x2))
    rw [ee 4 (by decide) (by decide), ee 5 (by decide) (by decide), ee 6 (by decide) (by decide), ee 7 (by decide) (by decide)]
    exact a6 x hx
  · have ee : ∀ q, q ≠ 3 → q ≠ 10 → ∀ v w : Int, jup (jup m 3 7 v) 3 8 w q = μ q := fun q x1 x2 v w => (jup_ne x1).trans ((jup_ne x1).trans (f1 q x2))
    rw [ee 8 (by decide) (by decide), ee 9 (by decide) (by decide)]
    exact a7 g hg
  · rw [jup_ne (by decide), jup_ne (by decide), g1 s hs, if_neg (Nat.not_lt_zero s), hN]
    rfl
def KpC (E : Option jO) (μ : jM) (k0 : Kt) (x : Nat ⊕ (Kt × Nat)) : Prop :=
  (∀ q, x = Sum.inl q → ∃ μ', E = rI (-1 - (q : Int)) μ' ∧ fRd μ' μ ∧ KI μ' k0) ∧
  ∀ z, x = Sum.inr z → ∃ μ', E = rI (z.2 : Int) μ' ∧ fRd μ' μ ∧ KI μ' z.1
theorem KpC_t {E : Option jO} {μ μ1 : jM} {k0 : Kt} {x : Nat ⊕ (Kt × Nat)} (f : fRd μ1 μ) (h : KpC E μ1 k0 x) : KpC E μ k0 x := ⟨fun q hq => by
  obtain ⟨μ', a, b, c⟩ := h.1 q hq
  exact ⟨μ', a, fRd_t f b, c⟩, fun z hz => by
  obtain ⟨μ', a, b, c⟩ := h.2 z hz
  exact ⟨μ', a, fRd_t f b, c⟩⟩
theorem KpC_l {E : Option jO} {μ μ' : jM} {k0 k : Kt} {q : Nat} (h0 : Kok k0) (e : E = rI (-1 - (q : Int)) μ') (f : fRd μ' μ) (hD : DI μ' k0 k) : KpC E μ k0 (Sum.inl q) := ⟨fun q' hq => by
  cases hq
  exact ⟨μ', e, f, DI_KI hD h0⟩, fun z hz => by cases hz⟩
theorem c_read_end (d : Nat) {μ : jM} {t : List Nat} {k0 k : Kt} (h0 : Kok k0) (ht : TC μ t) (hD : DI μ k0 k) (q n : Nat) (hq : q ≤ 80) (hp : μ 11 0 = (q : Int)) : KpC (EV (d + 4) T_X6_read 1 [some (jR 11), some (jR 1), some (jR 3), some (jI n), some (jI 0)] [] μ) μ k0 (if q < t.length then Sum.inl q else Sum.inr (k, n)) := by
  rw [e_X6_read_1, if_pos rfl, e_X10_length, ht.2.2.1, bI_r, hp]
  by_cases hl : q < t.length
  · rw [if_pos (by omega), if_pos hl, w_id (by omega) (by omega)]
    exact KpC_l h0 rfl (fRd_r μ) hD
  · obtain ⟨μ', e, f, k1⟩ := c_X1_takeIn (d + 3) hD
    have h1 := hD.2.2.2.1
    have h2 := hD.2.2.2.2.1
    rw [if_neg (by omega), if_neg hl, h1, h2, e, bV_r]
    refine ⟨fun q' hq' => (by cases hq'), fun z hz => ?_⟩
    cases hz
    exact ⟨μ', rfl, fun q a b => f q (by omega), k1⟩
theorem c_read (d : Nat) {t : List Nat} {k0 : Kt} (h0 : Kok k0) : ∀ (r n p : Nat) (k : Kt) (μ : jM), TC μ t → DI μ k0 k → μ 11 0 = (p : Int) → 2 * n ≤ p → p ≤ 76 → 38 < r + n → KpC (EV (d + 4) T_X6_read 1 [some (jR 11), some (jR 1), some (jR 3), some (jI n), some (jI 1)] [] μ) μ k0 (kpa (tcb t 76) t.length r k p n) := by
  intro r
  induction r with
  | zero =>
    intro n p k μ ht hD hp h1 h2 h3
    omega
  | succ r ih =>
    intro n p k μ ht hD hp h1 h2 h3
    have hL := c_X6_readLine d ht hD p hp h2
    have hlin : ∀ z, lin (tcb t 76) k p = Sum.inr z → ext k0 z.1 ∧ p + 2 ≤ z.2 ∧ z.2 ≤ 76 := fun z hz => lin_ok (kc_o t) hD.1 h2 hz
    show KpC _ μ k0 (match lin (tcb t 76) k p with
      | Sum.inl q => Sum.inl q
      | Sum.inr z => if tcb t 76 z.2 = 59 then kpa (tcb t 76) t.length r z.1 (z.2 + 1) (n + 1) else if z.2 < t.length then Sum.inl z.2 else Sum.inr (z.1, n + 1))
    have hq : ∀ q, lin (tcb t 76) k p = Sum.inl q → q ≤ 80 := fun q hx => by
      unfold lin at hx
      by_cases h71 : tcb t 76 p = 71
      · have l1 := tcb_l (t := t) (B := 76) (i := p) (by rw [h71]; decide)
        rw [if_pos h71] at hx
        by_cases hg : kg k < 6
        · rw [if_pos hg] at hx
          unfold lnG at hx
          obtain ⟨a1, a2, a3, -⟩ := rsF_b (tcb t 76) 76 (kc_o t) 8 0 (p + 1) (by decide) (by omega)
          by_cases h45 : tcb t 76 (rg1 (tcb t 76) p) = 45
          · rw [if_pos h45] at hx
            cases hx
          · rw [if_neg h45] at hx
            cases hx
            exact Nat.le_trans a3 (by decide)
        · rw [if_neg hg] at hx
          cases hx
          omega
      · rw [if_neg h71] at hx
        by_cases hc : (isl (tcb t 76 p) && decide (kn k < 10)) = true
        · rw [if_pos hc] at hx
          unfold lnD at hx
          obtain ⟨a1, a2, a3, -⟩ := rsF_b (tcb t 76) 76 (kc_o t) 8 0 p (by decide) h2
          by_cases hd : isd (tcb t 76 (rq1 (tcb t 76) p)) = true
          · obtain ⟨b1, b2, b3, b4, b5, b6⟩ := rp_c (kc_o t) hd
            rw [if_pos hd] at hx
            by_cases h43 : tcb t 76 (rq3 (tcb t 76) p) = 43
            · rw [if_pos h43] at hx
              by_cases hd2 : isd (tcb t 76 (rq3 (tcb t 76) p + 1)) = true
              · rw [if_pos hd2] at hx
                cases hx
              · rw [if_neg hd2] at hx
                cases hx
                omega
            · rw [if_neg h43] at hx
              cases hx
          · rw [if_neg hd] at hx
            cases hx
            exact Nat.le_trans a3 (by decide)
        · rw [if_neg hc] at hx
          cases hx
          omega
    rw [e_X6_read_1, if_neg (by decide), if_pos (by omega)]
    cases hx : lin (tcb t 76) k p with
    | inl q =>
      obtain ⟨μ', e1, f1, d1, v1⟩ := hL.1 q hx
      have := hq q hx
      rw [e1, bI_r, if_pos rfl, v1, w_id (by omega) (by omega)]
      exact KpC_l h0 rfl f1 d1
    | inr z =>
      obtain ⟨q1, q2, q3⟩ := hlin z hx
      obtain ⟨μ', e1, f1, d1, v1⟩ := hL.2 z hx
      have ht' := fRd_TC f1 ht
      rw [e1, bI_r, if_neg (by decide), v1, c_X10_atB _ ht', bI_r, w_s n (by omega), v1]
      show KpC _ μ k0 (if tcb t 76 z.2 = 59 then _ else _)
      by_cases h59 : tcb t 76 z.2 = 59
      · have l1 := tcb_l (t := t) (B := 76) (i := z.2) (by rw [h59]; decide)
        rw [if_pos h59, if_pos h59, if_neg (by decide), w_s z.2 (by omega)]
        exact KpC_t (fRd_t f1 (fRd_11 μ' 0 _)) (ih (n + 1) (z.2 + 1) z.1 _ (fRd_TC (fRd_11 μ' 0 _) ht') (DI_11 d1 _) (jup_r _ _ _ _) (by omega) (by omega) (by omega))
      · rw [if_neg h59, if_neg h59, if_pos rfl, w_id (x := (z.2 : Int) + 0) (by omega) (by omega), Int.add_zero, jup_id v1]
        exact KpC_t f1 (c_read_end d h0 ht' d1 z.2 (n + 1) (by omega) v1)
theorem c_X11_kitchen (d : Nat) {μ : jM} {k : Kt} {t : List Nat} (hk : KI μ k) (ht : TC μ t) : ∃ μ', CL (d + 6) 147 [jR 0] μ = rI (kiA k t) μ' ∧ (∀ q, q ≠ 1 → q ≠ 11 → (q < 3 ∨ 10 < q) → μ' q = μ q) ∧ KI μ' (kiK k t) ∧ TC μ' [] := by
  have h0 := hk.1
  obtain ⟨-, k2, k3, k4, k5, k6⟩ := hk
  have hk : KI μ k := ⟨h0, k2, k3, k4, k5, k6⟩
  let m1 : jM := jup (jup (jup μ 11 0 0) 11 1 (kn k : Nat)) 11 2 (kg k : Nat)
  have n1 : ∀ q, q ≠ 11 → m1 q = μ q := fun q hq => (jup_ne hq).trans ((jup_ne hq).trans (jup_ne hq))
  have t1 : TC m1 t := TC_cg ht (n1 1 (by decide)) (n1 2 (by decide))
  have hk1 : KI m1 k := KI_cg hk (fun q a b => n1 q (by omega))
  have hD1 : DI m1 k k := ⟨ext_r h0, hk1.2.1, hk1.2.2.1, (jup_m (by decide)).trans (jup_r _ _ _ _), jup_r _ _ _ _, hk1.2.2.2.1, hk1.2.2.2.2.1, hk1.2.2.2.2.2⟩
  have p1 : m1 11 0 = ((0 : Nat) : Int) := (jup_m (by decide)).trans ((jup_m (by decide)).trans (jup_r _ _ _ _))
  have head : CL (d + 5) 96 [jR 11, jR 1, jR 3] μ = if (t.length : Int) = 0 then rI 0 m1 else EV (d + 4) T_X6_read 1 [some (jR 11), some (jR 1), some (jR 3), some (jI 0), some (jI 1)] [] m1 := by
    rw [e_X6_read, e_X1_dishes, show jup μ 11 0 0 3 7 = (kn k : Int) by rw [jup_ne (by decide)]; exact k2, bI_r, e_X1_guests, show jup (jup μ 11 0 0) 11 1 (kn k : Int) 3 8 = (kg k : Int) by rw [jup_ne (by decide), jup_ne (by decide)]; exact k3, bI_r, e_X10_length, show jup (jup (jup μ 11 0 0) 11 1 (kn k : Int)) 11 2 (kg k : Int) 1 1 = (t.length : Int) from t1.2.2.1, bI_r]
  rw [e_X11_kitchen, head]
  unfold kiA kiK kiP
  have fin : ∀ (m : jM) (k' : Kt) (x : Int), fRd m m1 → KI m k' → ∃ μ', (bI (rI x m) fun x1 μ1 => bV (CL (d + 5) 142 [jR 1] μ1) fun μ2 => rI x1 μ2) = rI x μ' ∧ (∀ q, q ≠ 1 → q ≠ 11 → (q < 3 ∨ 10 < q) → μ' q = μ q) ∧ KI μ' k' ∧ TC μ' [] := fun m k' x f hk' => by
    rw [bI_r, e_X10_clear, bV_r]
    exact ⟨_, rfl, fun q a b c => (jup_ne a).trans ((f q b c).trans (n1 q b)), KI_cg hk' (fun q a b => jup_ne (by omega)), TC_0 t⟩
  by_cases hz : t.length = 0
  · rw [if_pos (by omega), if_pos hz]
    exact fin m1 k 0 (fRd_r m1) hk1
  · have key : KpC (EV (d + 4) T_X6_read 1 [some (jR 11), some (jR 1), some (jR 3), some (jI 0), some (jI 1)] [] m1) m1 k (kpa (tcb t 76) t.length 39 k 0 0) := c_read d h0 39 0 0 k m1 t1 hD1 p1 (by decide) (by decide) (by decide)
    rw [if_neg (by omega), if_neg hz]
    cases hx : kpa (tcb t 76) t.length 39 k 0 0 with
    | inl q =>
      obtain ⟨μ', e, f, k1⟩ := key.1 q hx
      rw [e]
      exact fin μ' k _ f k1
    | inr z =>
      obtain ⟨μ', e, f, k1⟩ := key.2 z hx
      rw [e]
      exact fin μ' z.1 _ f k1
