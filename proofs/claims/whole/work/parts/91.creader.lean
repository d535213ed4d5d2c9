/-! ## the class's Reader: LINES -/
def DI (μ : jM) (k0 k : Kt) : Prop := ext k0 k ∧ μ 3 7 = (kn k0 : Int) ∧ μ 3 8 = (kg k0 : Int) ∧ μ 11 1 = (kn k : Int) ∧ μ 11 2 = (kg k : Int) ∧ (∀ d : Nat, d < kn k → μ 4 d = (kst k d : Int) ∧ μ 5 d = (kco k d : Int) ∧ μ 6 d = (khe k d : Int) ∧ μ 7 d = (kho k d : Int)) ∧ (∀ g : Nat, g < kg k → μ 8 g = (klo k g : Int) ∧ μ 9 g = (kba k g : Int)) ∧ ∀ s : Nat, s < 8 → μ 10 s = (khs k0 s : Int)
theorem DI_cg {μ μ' : jM} {k0 k : Kt} (h : DI μ k0 k) (e : ∀ q, 3 ≤ q → q ≤ 10 → μ' q = μ q) (e1 : μ' 11 1 = μ 11 1) (e2 : μ' 11 2 = μ 11 2) : DI μ' k0 k := by
  obtain ⟨a1, a2, a3, a4, a5, a6, a7, a8⟩ := h
  refine ⟨a1, by rw [e 3 (by decide) (by decide)]; exact a2, by rw [e 3 (by decide) (by decide)]; exact a3, by rw [e1]; exact a4, by rw [e2]; exact a5, fun d hd => ?_, fun g hg => ?_, fun s hs => ?_⟩
  · rw [e 4 (by decide) (by decide), e 5 (by decide) (by decide), e 6 (by decide) (by decide), e 7 (by decide) (by decide)]
    exact a6 d hd
  · rw [e 8 (by decide) (by decide), e 9 (by decide) (by decide)]
    exact a7 g hg
  · rw [e 10 (by decide) (by decide)]
    exact a8 s hs
theorem DI_11 {μ : jM} {k0 k : Kt} (h : DI μ k0 k) (v : Int) : DI (jup μ 11 0 v) k0 k := DI_cg h (fun q a b => jup_ne (by omega)) (jup_m (by decide)) (jup_m (by decide))
theorem DI_KI {μ : jM} {k0 k : Kt} (h : DI μ k0 k) (h0 : Kok k0) : KI μ k0 := by
  obtain ⟨⟨-, b1, b2, b3, b4⟩, a2, a3, a4, a5, a6, a7, a8⟩ := h
  refine ⟨h0, a2, a3, fun d hd => ?_, fun g hg => ?_, a8⟩
  · obtain ⟨c1, c2, c3, c4⟩ := b3 d hd
    rw [← c1, ← c2, ← c3, ← c4]
    exact a6 d (by omega)
  · obtain ⟨c1, c2⟩ := b4 g hg
    rw [← c1, ← c2]
    exact a7 g (by omega)
def fRd (μ' μ : jM) : Prop := ∀ q, q ≠ 11 → (q < 3 ∨ 10 < q) → μ' q = μ q
theorem fRd_r (μ : jM) : fRd μ μ := fun _ _ _ => rfl
theorem fRd_t {μ1 μ2 μ3 : jM} (h1 : fRd μ2 μ1) (h2 : fRd μ3 μ2) : fRd μ3 μ1 := fun q a b => (h2 q a b).trans (h1 q a b)
theorem fRd_11 (μ : jM) (i v : Int) : fRd (jup μ 11 i v) μ := fun q a _ => jup_ne a
theorem fRd_TC {μ' μ : jM} {t : List Nat} (f : fRd μ' μ) (h : TC μ t) : TC μ' t := TC_cg h (f 1 (by decide) (by decide)) (f 2 (by decide) (by decide))
theorem c_rd2 (d : Nat) {μ : jM} {k0 k : Kt} (hD : DI μ k0 k) (hn : kn k < 10) (s co he ho : Nat) (h1 : 0 < s) (h2 : s < 256) (h3 : co ≤ 99) (h4 : he ≤ 1) (h5 : ho ≤ 9) : ∃ μ', EV (d + 2) T_X6_readDish 2 [some (jR 11), none, some (jR 3), some (jI s), some (jI co), some (jI he), some (jI ho)] [] μ = rI 1 μ' ∧ fRd μ' μ ∧ DI μ' k0 (kaD k s co he ho) ∧ μ' 11 0 = μ 11 0 := by
  have hext := ext_D hD.1 hn h1 h2 h3 h4 h5
  obtain ⟨a1, a2, a3, a4, a5, a6, a7, a8⟩ := hD
  have hle := a1.2.1
  rw [e_X6_readDish_2, e_X1_draftDish, a4, a2, if_neg (by omega), if_pos (by omega), gd_t (by omega), gd_t (by omega), gd_t (by omega), gd_t (by omega), bV_r, gd_t (by omega)]
  refine ⟨_, rfl, fun q b1 b2 => ?_, ⟨hext, ?_, ?_, ?_, ?_, fun d hd => ?_, fun g hg => ?_, fun s hs => ?_⟩, ?_⟩
  · rw [jup_ne b1, jup_ne (by omega), jup_ne (by omega), jup_ne (by omega), jup_ne (by omega)]
  · rw [jup_ne (by decide), jup_ne (by decide), jup_ne (by decide), jup_ne (by decide), jup_ne (by decide)]
    exact a2
  · rw [jup_ne (by decide), jup_ne (by decide), jup_ne (by decide), jup_ne (by decide), jup_ne (by decide)]
    exact a3
  · rw [jup_r, jup_ne (by decide), jup_ne (by decide), jup_ne (by decide), jup_ne (by decide), a4, w_s _ (by omega)]
    rfl
  · rw [jup_m (by decide), jup_ne (by decide), jup_ne (by decide), jup_ne (by decide), jup_ne (by decide)]
    exact a5
  · have hd : d < kn k + 1 := hd
    show _ = ((if d = kn k then s else kst k d : Nat) : Int) ∧ _ = ((if d = kn k then co else kco k d : Nat) : Int) ∧ _ = ((if d = kn k then he else khe k d : Nat) : Int) ∧ _ = ((if d = kn k then ho else kho k d : Nat) : Int)
    by_cases hz : d = kn k
    · rw [if_pos hz, if_pos hz, if_pos hz, if_pos hz, hz]
      refine ⟨?_, ?_, ?_, ?_⟩
      · rw [jup_ne (by decide), jup_ne (by decide), jup_ne (by decide), jup_ne (by decide), jup_r]
      · rw [jup_ne (by decide), jup_ne (by decide), jup_ne (by decide), jup_r]
      · rw [jup_ne (by decide), jup_ne (by decide), jup_r]
      · rw [jup_ne (by decide), jup_r]
    · obtain ⟨v1, v2, v3, v4⟩ := a6 d (by omega)
      rw [if_neg hz, if_neg hz, if_neg hz, if_neg hz]
      refine ⟨?_, ?_, ?_, ?_⟩
      · rw [jup_ne (by decide), jup_ne (by decide), jup_ne (by decide), jup_ne (by decide), jup_m (by omega)]
        exact v1
      · rw [jup_ne (by decide), jup_ne (by decide), jup_ne (by decide), jup_m (by omega), jup_ne (by decide)]
        exact v2
      · rw [jup_ne (by decide), jup_ne (by decide), jup_m (by omega), jup_ne (by decide), jup_ne (by decide)]
        exact v3
      · rw [jup_ne (by decide), jup_m (by omega), jup_ne (by decide), jup_ne (by decide), jup_ne (by decide)]
        exact v4
  · have hg : g < kg k := hg
    rw [jup_ne (by decide), jup_ne (by decide), jup_ne (by decide), jup_ne (by decide), jup_ne (by decide), jup_ne (show (9 : Nat) ≠ 11 by decide), jup_ne (show (9 : Nat) ≠ 7 by decide), jup_ne (show (9 : Nat) ≠ 6 by decide), jup_ne (show (9 : Nat) ≠ 5 by decide), jup_ne (show (9 : Nat) ≠ 4 by decide)]
    exact a7 g hg
  · rw [jup_ne (by decide), jup_ne (by decide), jup_ne (by decide), jup_ne (by decide), jup_ne (by decide)]
    exact a8 s hs
  · rw [jup_m (by decide), jup_ne (by decide), jup_ne (by decide), jup_ne (by decide), jup_ne (by decide)]
theorem c_rd1 (d : Nat) {μ : jM} {t : List Nat} (ht : TC μ t) (p : Nat) (hp : μ 11 0 = (p : Int)) (hp76 : p ≤ 76) (s co : Nat) (he : Nat) (hhe : he = if tcb t 76 p = 72 then 1 else 0) :
    (tcb t 76 (p + he) ≠ 43 → EV (d + 2) T_X6_readDish 1 [some (jR 11), some (jR 1), some (jR 3), some (jI s), some (jI co), none, none] [] μ = EV (d + 2) T_X6_readDish 2 [some (jR 11), none, some (jR 3), some (jI s), some (jI co), some (jI he), some (jI 0)] [] (jup μ 11 0 ((p + he : Nat) : Int))) ∧
    (tcb t 76 (p + he) = 43 → isd (tcb t 76 (p + he + 1)) = false → EV (d + 2) T_X6_readDish 1 [some (jR 11), some (jR 1), some (jR 3), some (jI s), some (jI co), none, none] [] μ = rI 0 (jup μ 11 0 ((p + he + 1 : Nat) : Int))) ∧
    (tcb t 76 (p + he) = 43 → isd (tcb t 76 (p + he + 1)) = true → EV (d + 2) T_X6_readDish 1 [some (jR 11), some (jR 1), some (jR 3), some (jI s), some (jI co), none, none] [] μ = EV (d + 2) T_X6_readDish 2 [some (jR 11), none, some (jR 3), some (jI s), some (jI co), some (jI he), some (jI (tcb t 76 (p + he + 1) - 48))] [] (jup μ 11 0 ((p + he + 2 : Nat) : Int))) := by
  have htM : ∀ x : Int, TC (jup μ 11 0 x) t := fun x => TC_cg ht (jup_ne (by decide)) (jup_ne (by decide))
  have rest : ∀ q : Nat, q ≤ 76 → ∀ X Y : Option jO, (tcb t 76 q ≠ 43 → (if tcb t 76 q = 43 then X else Y) = Y) ∧ (tcb t 76 q = 43 → (if tcb t 76 q = 43 then X else Y) = X) := fun q _ X Y => ⟨fun z => if_neg z, fun z => if_pos z⟩
  rw [e_X6_readDish_1, hp, c_X10_atB _ ht, bI_r]
  have dig : ∀ q : Nat, q ≤ 76 → ∀ h : Int, (isd (tcb t 76 (q + 1)) = false → (bI (CL (d + 2) 144 [jR 1, jI (((q + 1 : Nat) : Int)), jI 76] (jup μ 11 0 ((q + 1 : Nat) : Int))) fun x6 μ6 => if x6 = 0 then gd ((0 : Int) = 0 ∨ (0 : Int) = 1) (rI 0 μ6) else bI (CL (d + 2) 100 [jR 11, jR 1] μ6) fun x7 μ7 => EV (d + 2) T_X6_readDish 2 [some (jR 11), none, some (jR 3), some (jI s), some (jI co), some (jI h), some (jI x7)] [] μ7) = rI 0 (jup μ 11 0 ((q + 1 : Nat) : Int))) ∧ (isd (tcb t 76 (q + 1)) = true → (bI (CL (d + 2) 144 [jR 1, jI (((q + 1 : Nat) : Int)), jI 76] (jup μ 11 0 ((q + 1 : Nat) : Int))) fun x6 μ6 => if x6 = 0 then gd ((0 : Int) = 0 ∨ (0 : Int) = 1) (rI 0 μ6) else bI (CL (d + 2) 100 [jR 11, jR 1] μ6) fun x7 μ7 => EV (d + 2) T_X6_readDish 2 [some (jR 11), none, some (jR 3), some (jI s), some (jI co), some (jI h), some (jI x7)] [] μ7) = EV (d + 2) T_X6_readDish 2 [some (jR 11), none, some (jR 3), some (jI s), some (jI co), some (jI h), some (jI (tcb t 76 (q + 1) - 48))] [] (jup μ 11 0 ((q + 2 : Nat) : Int))) := fun q hq h => ⟨fun z => by
      rw [c_X10_hasDigit _ (htM _), bI_r, z, z_f, gd_t (by omega)], fun z => by
      rw [c_X10_hasDigit _ (htM _), bI_r, z, z_t, c_X6_readDigit _ (htM _) (q + 1) (jup_r _ _ _ _) z, bI_r, jup_jup]⟩
  by_cases h72 : tcb t 76 p = 72
  · have l1 := tcb_l (t := t) (B := 76) (i := p) (by rw [h72]; decide)
    rw [if_pos h72] at hhe
    subst hhe
    rw [if_pos h72, hp, w_s p (by omega), jup_r, c_X10_atB _ (htM _), bI_r, jup_r, jup_jup]
    refine ⟨fun z => by rw [if_neg z]; rfl, fun z y => ?_, fun z y => ?_⟩
    · have l2 := tcb_l (t := t) (B := 76) (i := p + 1) (by rw [z]; decide)
      rw [if_pos z, jup_r, w_s (p + 1) (by omega)]
      exact (dig (p + 1) (by omega) 1).1 y
    · have l2 := tcb_l (t := t) (B := 76) (i := p + 1) (by rw [z]; decide)
      rw [if_pos z, jup_r, w_s (p + 1) (by omega)]
      exact (dig (p + 1) (by omega) 1).2 y
  · rw [if_neg h72] at hhe
    subst hhe
    rw [if_neg h72, hp, w_id (x := (p : Int) + 0) (by omega) (by omega), show (p : Int) + 0 = ((p + 0 : Nat) : Int) from rfl, jup_r, c_X10_atB _ (htM _), bI_r, jup_r, jup_jup]
    refine ⟨fun z => by rw [if_neg z]; rfl, fun z y => ?_, fun z y => ?_⟩
    · have l2 := tcb_l (t := t) (B := 76) (i := p + 0) (by rw [z]; decide)
      rw [if_pos z, jup_r, w_s (p + 0) (by omega)]
      exact (dig (p + 0) (by omega) 0).1 y
    · have l2 := tcb_l (t := t) (B := 76) (i := p + 0) (by rw [z]; decide)
      rw [if_pos z, jup_r, w_s (p + 0) (by omega)]
      exact (dig (p + 0) (by omega) 0).2 y
/-- what a LINE comes to -/
def LnC (o : Option jO) (μ : jM) (k0 k : Kt) (x : Nat ⊕ (Kt × Nat)) : Prop := (∀ q, x = Sum.inl q → ∃ μ', o = rI 0 μ' ∧ fRd μ' μ ∧ DI μ' k0 k ∧ μ' 11 0 = (q : Int)) ∧ ∀ z, x = Sum.inr z → ∃ μ', o = rI 1 μ' ∧ fRd μ' μ ∧ DI μ' k0 z.1 ∧ μ' 11 0 = (z.2 : Int)
theorem LnC_l {o : Option jO} {μ : jM} {k0 k : Kt} {q : Nat} {μ' : jM} (h : o = rI 0 μ' ∧ fRd μ' μ ∧ DI μ' k0 k ∧ μ' 11 0 = (q : Int)) : LnC o μ k0 k (Sum.inl q) := ⟨fun q' e => (by cases e; exact ⟨μ', h⟩), fun z e => (by cases e)⟩
theorem LnC_r {o : Option jO} {μ : jM} {k0 k : Kt} {z : Kt × Nat} (h : ∃ μ', o = rI 1 μ' ∧ fRd μ' μ ∧ DI μ' k0 z.1 ∧ μ' 11 0 = (z.2 : Int)) : LnC o μ k0 k (Sum.inr z) := ⟨fun q' e => (by cases e), fun z e => (by cases e; exact h)⟩
theorem c_X6_readDish (d : Nat) {μ : jM} {t : List Nat} {k0 k : Kt} (ht : TC μ t) (hD : DI μ k0 k) (p : Nat) (hp : μ 11 0 = (p : Int)) (hp76 : p ≤ 76) (hl : isl (tcb t 76 p) = true) (hn : kn k < 10) : LnC (CL (d + 3) 99 [jR 11, jR 1, jR 3] μ) μ k0 k (lnD (tcb t 76) k p) := by
  have htM : ∀ x : Int, TC (jup μ 11 0 x) t := fun x => TC_cg ht (jup_ne (by decide)) (jup_ne (by decide))
  obtain ⟨a1, a2, a3, a4⟩ := rp_b (kc_o t) hp76 hl
  have start : CL (d + 3) 99 [jR 11, jR 1, jR 3] μ = if isd (tcb t 76 (rq1 (tcb t 76) p)) then EV (d + 2) T_X6_readDish 1 [some (jR 11), some (jR 1), some (jR 3), some (jI (rsF (tcb t 76) 8 0 p).1), some (jI (rco (tcb t 76) p : Nat)), none, none] [] (jup μ 11 0 (rq2 (tcb t 76) p : Nat)) else rI 0 (jup μ 11 0 (rq1 (tcb t 76) p : Nat)) := by
    rw [e_X6_readDish, c_X6_readStuffs _ p ht hp, bI_r, jup_r, c_X10_hasDigit _ (htM _), bI_r]
    cases hd : isd (tcb t 76 (rq1 (tcb t 76) p)) with
    | false =>
      rw [show isd (tcb t 76 (rsF (tcb t 76) 8 0 p).2) = false from hd, z_f, gd_t (by omega), if_neg (by decide)]
      rfl
    | true =>
      have h1 := isd_i.mp hd
      have l1 := tcb_l (t := t) (B := 76) (i := rq1 (tcb t 76) p) (by omega)
      have e1 := c_X6_readDigit d (htM (rq1 (tcb t 76) p : Nat)) (rq1 (tcb t 76) p) (jup_r _ _ _ _) hd
      rw [jup_jup] at e1
      have e1 : CL (d + 2) 100 [jR 11, jR 1] (jup μ 11 0 ((rsF (tcb t 76) 8 0 p).2 : Nat)) = rI (tcb t 76 (rq1 (tcb t 76) p) - 48) (jup μ 11 0 ((rq1 (tcb t 76) p + 1 : Nat) : Int)) := e1
      rw [show isd (tcb t 76 (rsF (tcb t 76) 8 0 p).2) = true from hd, z_t, if_pos rfl, e1, bI_r, jup_r, c_X10_hasDigit _ (htM _), bI_r]
      unfold rq2 rco
      cases h2 : rtwo (tcb t 76) p with
      | false =>
        rw [show isd (tcb t 76 (rq1 (tcb t 76) p + 1)) = false from h2, z_f, if_neg (by decide), if_neg (by decide), Int.toNat_of_nonneg (by omega)]
      | true =>
        have h3 := isd_i.mp h2
        rw [show isd (tcb t 76 (rq1 (tcb t 76) p + 1)) = true from h2, z_t, if_pos rfl, if_pos rfl, c_X6_readDigit _ (htM _) (rq1 (tcb t 76) p + 1) (jup_r _ _ _ _) h2, bI_r, jup_jup, w_id (x := 10 * (tcb t 76 (rq1 (tcb t 76) p) - 48)) (by omega) (by omega), w_id (by omega) (by omega), Int.toNat_of_nonneg (by omega)]
  rw [start]
  unfold lnD
  by_cases hd : isd (tcb t 76 (rq1 (tcb t 76) p)) = true
  · obtain ⟨b1, b2, b3, b4, b5, b6⟩ := rp_c (kc_o t) hd
    obtain ⟨r1, r2, r3⟩ := c_rd1 d (htM (rq2 (tcb t 76) p : Nat)) (rq2 (tcb t 76) p) (jup_r _ _ _ _) b2 (rsF (tcb t 76) 8 0 p).1 (rco (tcb t 76) p) (rhe (tcb t 76) p) rfl
    rw [if_pos hd, if_pos hd]
    have r1 : tcb t 76 (rq3 (tcb t 76) p) ≠ 43 → _ := r1
    have r2 : tcb t 76 (rq3 (tcb t 76) p) = 43 → isd (tcb t 76 (rq3 (tcb t 76) p + 1)) = false → _ := r2
    have r3 : tcb t 76 (rq3 (tcb t 76) p) = 43 → isd (tcb t 76 (rq3 (tcb t 76) p + 1)) = true → _ := r3
    by_cases h43 : tcb t 76 (rq3 (tcb t 76) p) = 43
    · rw [if_pos h43]
      cases hd2 : isd (tcb t 76 (rq3 (tcb t 76) p + 1)) with
      | true =>
        have h9 := isd_i.mp hd2
        rw [if_pos rfl, r3 h43 hd2, jup_jup]
        obtain ⟨ho, hho⟩ : ∃ x : Nat, tcb t 76 (rq3 (tcb t 76) p + 1) - 48 = (x : Int) := Int.eq_ofNat_of_zero_le (by omega)
        have hho2 : tcb t 76 (rq2 (tcb t 76) p + rhe (tcb t 76) p + 1) - 48 = (ho : Int) := hho
        rw [hho, hho2, Int.toNat_natCast]
        obtain ⟨μ', e1, f1, d1, q1⟩ := c_rd2 d (DI_11 hD ((rq2 (tcb t 76) p + rhe (tcb t 76) p + 2 : Nat) : Int)) hn (rsF (tcb t 76) 8 0 p).1 (rco (tcb t 76) p) (rhe (tcb t 76) p) ho a3 a4 b5 b6 (by omega)
        exact LnC_r ⟨μ', e1, fRd_t (fRd_11 μ 0 _) f1, d1, q1.trans (jup_r _ _ _ _)⟩
      | false =>
        rw [if_neg (by decide), r2 h43 hd2, jup_jup]
        exact LnC_l ⟨rfl, fRd_11 μ 0 _, DI_11 hD _, jup_r _ _ _ _⟩
    · rw [if_neg h43, r1 h43, jup_jup]
      obtain ⟨μ', e1, f1, d1, q1⟩ := c_rd2 d (DI_11 hD ((rq2 (tcb t 76) p + rhe (tcb t 76) p : Nat) : Int)) hn (rsF (tcb t 76) 8 0 p).1 (rco (tcb t 76) p) (rhe (tcb t 76) p) 0 a3 a4 b5 b6 (by decide)
      exact LnC_r ⟨μ', e1, fRd_t (fRd_11 μ 0 _) f1, d1, q1.trans (jup_r _ _ _ _)⟩
  · rw [if_neg hd, if_neg hd]
    exact LnC_l ⟨rfl, fRd_11 μ 0 _, DI_11 hD _, jup_r _ _ _ _⟩
theorem c_X6_readGuest (d : Nat) {μ : jM} {t : List Nat} {k0 k : Kt} (ht : TC μ t) (hD : DI μ k0 k) (p : Nat) (hp : μ 11 0 = (p : Int)) (hp76 : p < 76) (hg : kg k < 6) : LnC (CL (d + 3) 98 [jR 11, jR 1, jR 3] μ) μ k0 k (lnG (tcb t 76) k p) := by
  have htM : ∀ x : Int, TC (jup μ 11 0 x) t := fun x => TC_cg ht (jup_ne (by decide)) (jup_ne (by decide))
  obtain ⟨a1, a2, a3, -⟩ := rsF_b (tcb t 76) 76 (kc_o t) 8 0 (p + 1) (by decide) (by omega)
  have a2 : p + 1 ≤ rg1 (tcb t 76) p := a2
  rw [e_X6_readGuest, hp, w_s p (by omega), c_X6_readStuffs _ (p + 1) (htM _) (jup_r _ _ _ _), bI_r, jup_jup, jup_r, c_X10_atB _ (htM _), bI_r]
  unfold lnG
  by_cases h45 : tcb t 76 (rg1 (tcb t 76) p) = 45
  · have l1 := tcb_l (t := t) (B := 76) (i := rg1 (tcb t 76) p) (by rw [h45]; decide)
    obtain ⟨b1, b2, b3, -⟩ := rsF_b (tcb t 76) 76 (kc_o t) 8 0 (rg1 (tcb t 76) p + 1) (by decide) (by omega)
    rw [if_pos h45, if_pos (show tcb t 76 (rsF (tcb t 76) 8 0 (p + 1)).2 = 45 from h45), jup_r, w_s _ (by show rg1 (tcb t 76) p < _; omega), jup_jup]
    have e2 := c_X6_readStuffs d (rg1 (tcb t 76) p + 1) (htM ((rg1 (tcb t 76) p + 1 : Nat) : Int)) (jup_r _ _ _ _)
    rw [jup_jup] at e2
    have hext := ext_G hD.1 hg a1 b1
    obtain ⟨c1, c2, c3, c4, c5, c6, c7, c8⟩ := hD
    have hle := c1.2.2.1
    have e11 : jup μ 11 0 ((rg1 (tcb t 76) p + 1 : Nat) : Int) 11 2 = (kg k : Int) := (jup_m (by decide)).trans c5
    have e2 : CL (d + 2) 101 [jR 11, jR 1] (jup μ 11 0 (((rsF (tcb t 76) 8 0 (p + 1)).2 + 1 : Nat) : Int)) = rI ((rsF (tcb t 76) 8 0 (rg1 (tcb t 76) p + 1)).1 : Nat) (jup μ 11 0 ((rsF (tcb t 76) 8 0 (rg1 (tcb t 76) p + 1)).2 : Nat)) := e2
    rw [e2, bI_r, show jup μ 11 0 (((rsF (tcb t 76) 8 0 (p + 1)).2 + 1 : Nat) : Int) 11 2 = (kg k : Int) from e11]
    let m : jM := jup μ 11 0 ((rsF (tcb t 76) 8 0 (rg1 (tcb t 76) p + 1)).2 : Nat)
    have m8 : m 3 8 = (kg k0 : Int) := by
      show jup μ 11 0 _ 3 8 = _
      rw [jup_ne (by decide)]
      exact c3
    have m112 : m 11 2 = (kg k : Int) := (jup_m (by decide)).trans c5
    show LnC (bV (CL (d + 2) 22 [jR 3, jI (kg k), jI (rsF (tcb t 76) 8 0 (p + 1)).1, jI (rsF (tcb t 76) 8 0 (rg1 (tcb t 76) p + 1)).1] m) fun μ4 => gd ((1 : Int) = 0 ∨ (1 : Int) = 1) (rI 1 (jup μ4 11 2 (w32 ((μ4 11 2) + 1))))) μ k0 k _
    rw [e_X1_draftGuest, m8, if_neg (by omega), if_pos (by omega), gd_t (by omega), gd_t (by omega), bV_r, gd_t (by omega)]
    refine LnC_r ⟨_, rfl, fun q x1 x2 => ?_, ⟨hext, ?_, ?_, ?_, ?_, fun z hz => ?_, fun g hg => ?_, fun s hs => ?_⟩, ?_⟩
    · rw [jup_ne x1, jup_ne (by omega), jup_ne (by omega)]
      exact jup_ne x1
    · rw [jup_ne (by decide), jup_ne (by decide), jup_ne (by decide)]
      show jup μ 11 0 _ 3 7 = _
      rw [jup_ne (by decide)]
      exact c2
    · rw [jup_ne (by decide), jup_ne (by decide), jup_ne (by decide)]
      exact m8
    · rw [jup_m (by decide), jup_ne (by decide), jup_ne (by decide)]
      exact (jup_m (by decide)).trans c4
    · rw [jup_r, jup_ne (by decide), jup_ne (by decide), m112, w_s _ (by omega)]
      rfl
    · have hz : z < kn k := hz
      have mm : ∀ q, q ≠ 11 → q ≠ 8 → q ≠ 9 → ∀ v1 v2 v3 v4 : Int, jup (jup (jup m 8 v1 v2) 9 v1 v3) 11 2 v4 q = μ q := fun q y1 y2 y3 v1 v2 v3 v4 => (jup_ne y1).trans ((jup_ne y3).trans ((jup_ne y2).trans (jup_ne y1)))
      rw [mm 4 (by decide) (by decide) (by decide), mm 5 (by decide) (by decide) (by decide), mm 6 (by decide) (by decide) (by decide), mm 7 (by decide) (by decide) (by decide)]
      exact c6 z hz
    · have hg2 : g < kg k + 1 := hg
      show _ = ((if g = kg k then (rsF (tcb t 76) 8 0 (p + 1)).1 else klo k g : Nat) : Int) ∧ _ = ((if g = kg k then (rsF (tcb t 76) 8 0 (rg1 (tcb t 76) p + 1)).1 else kba k g : Nat) : Int)
      rw [jup_ne (show (8 : Nat) ≠ 11 by decide), jup_ne (show (8 : Nat) ≠ 9 by decide), jup_ne (show (9 : Nat) ≠ 11 by decide)]
      by_cases hz : g = kg k
      · rw [if_pos hz, if_pos hz, hz, jup_r, jup_r]
        exact ⟨rfl, rfl⟩
      · rw [if_neg hz, if_neg hz, jup_m (by omega), jup_m (by omega), jup_ne (show (9 : Nat) ≠ 8 by decide)]
        show jup μ 11 0 _ 8 _ = _ ∧ jup μ 11 0 _ 9 _ = _
        rw [jup_ne (by decide), jup_ne (by decide)]
        exact c7 g (by omega)
    · rw [jup_ne (by decide), jup_ne (by decide), jup_ne (by decide)]
      show jup μ 11 0 _ 10 _ = _
      rw [jup_ne (by decide)]
      exact c8 s hs
    · rw [jup_m (by decide), jup_ne (by decide), jup_ne (by decide)]
      exact jup_r _ _ _ _
  · rw [if_neg h45, if_neg (show ¬ tcb t 76 (rsF (tcb t 76) 8 0 (p + 1)).2 = 45 from h45), gd_t (by omega)]
    exact LnC_l ⟨rfl, fRd_11 μ 0 _, DI_11 hD _, jup_r _ _ _ _⟩
theorem LnC_b {o o' : Option jO} {μ : jM} {k0 k : Kt} {x : Nat ⊕ (Kt × Nat)} (h : LnC o μ k0 k x) (e : o' = bI o fun x μ => if x = 0 then gd ((0 : Int) = 0 ∨ (0 : Int) = 1) (rI 0 μ) else gd ((1 : Int) = 0 ∨ (1 : Int) = 1) (rI 1 μ)) : LnC o' μ k0 k x := by
  subst e
  refine ⟨fun q hq => ?_, fun z hz => ?_⟩
  · obtain ⟨μ', e, r⟩ := h.1 q hq
    exact ⟨μ', by rw [e]; rfl, r⟩
  · obtain ⟨μ', e, r⟩ := h.2 z hz
    exact ⟨μ', by rw [e]; rfl, r⟩
theorem c_X6_readLine (d : Nat) {μ : jM} {t : List Nat} {k0 k : Kt} (ht : TC μ t) (hD : DI μ k0 k) (p : Nat) (hp : μ 11 0 = (p : Int)) (hp76 : p ≤ 76) : LnC (CL (d + 4) 97 [jR 11, jR 1, jR 3] μ) μ k0 k (lin (tcb t 76) k p) := by
  obtain ⟨c1, c2, c3, c4, c5, c6, c7, c8⟩ := hD
  have hD : DI μ k0 k := ⟨c1, c2, c3, c4, c5, c6, c7, c8⟩
  rw [e_X6_readLine, hp, c_X10_atB _ ht, bI_r]
  unfold lin
  have no : LnC (rI 0 μ) μ k0 k (Sum.inl p) := LnC_l ⟨rfl, fRd_r μ, hD, hp⟩
  by_cases h71 : tcb t 76 p = 71
  · have l1 := tcb_l (t := t) (B := 76) (i := p) (by rw [h71]; decide)
    rw [if_pos h71, if_pos h71, c5]
    by_cases hg : kg k < 6
    · rw [if_pos hg, if_pos (by omega)]
      exact LnC_b (c_X6_readGuest d ht hD p hp (by omega) hg) rfl
    · rw [if_neg hg, if_neg (by omega), gd_t (by omega)]
      exact no
  · rw [if_neg h71, if_neg h71, c4]
    cases hl : isl (tcb t 76 p) with
    | false =>
      have h1 := isl_n.mp hl
      rw [Bool.false_and, if_neg (show ¬ (false = true) by decide)]
      by_cases h2 : tcb t 76 p < 97
      · rw [if_pos h2, gd_t (by omega)]
        exact no
      · rw [if_neg h2, if_neg (by omega), gd_t (by omega)]
        exact no
    | true =>
      have h1 := isl_i.mp hl
      rw [if_neg (by omega), if_pos (by omega), Bool.true_and]
      by_cases hn : kn k < 10
      · rw [decide_eq_true hn, if_pos rfl, if_pos (by omega)]
        exact LnC_b (c_X6_readDish d ht hD p hp hp76 hl hn) rfl
      · rw [decide_eq_false hn, if_neg (show ¬ (false = true) by decide), if_neg (by omega), gd_t (by omega)]
        exact no
