/-! ## the kitchen told: the reference -/
def DR (ν : jM) (k0 k : Kt) : Prop := ext k0 k ∧ ν 69 1 = (kn k0 : Int) ∧ ν 69 6 = (kg k0 : Int) ∧ (∀ d : Nat, d < kn k → ν 71 d = (kst k d : Int) ∧ ν 72 d = (kco k d : Int) ∧ ν 73 d = (khe k d : Int) ∧ ν 74 d = (kho k d : Int)) ∧ ∀ g : Nat, g < kg k → ν 75 g = (klo k g : Int) ∧ ν 76 g = (kba k g : Int)
theorem DR_cg {ν ν' : jM} {k0 k : Kt} (h : DR ν k0 k) (e1 : ν' 69 1 = ν 69 1) (e6 : ν' 69 6 = ν 69 6) (ed : ∀ q, 71 ≤ q → q ≤ 74 → ∀ j : Int, j < kn k → ν' q j = ν q j) (eg : ∀ q, 75 ≤ q → q ≤ 76 → ∀ j : Int, j < kg k → ν' q j = ν q j) : DR ν' k0 k := by
  obtain ⟨a1, a2, a3, a4, a5⟩ := h
  refine ⟨a1, by rw [e1]; exact a2, by rw [e6]; exact a3, fun d hd => ?_, fun g hg => ?_⟩
  · rw [ed 71 (by decide) (by decide) d (by omega), ed 72 (by decide) (by decide) d (by omega), ed 73 (by decide) (by decide) d (by omega), ed 74 (by decide) (by decide) d (by omega)]
    exact a4 d hd
  · rw [eg 75 (by decide) (by decide) g (by omega), eg 76 (by decide) (by decide) g (by omega)]
    exact a5 g hg
theorem DR_D {ν ν' : jM} {k0 k : Kt} {s co he ho : Nat} (h : DR ν k0 k) (hext : ext k0 (kaD k s co he ho)) (e1 : ν' 69 1 = ν 69 1) (e6 : ν' 69 6 = ν 69 6) (ed : ∀ q, 71 ≤ q → q ≤ 74 → ∀ j : Int, j < kn k → ν' q j = ν q j) (eg : ∀ q, 75 ≤ q → q ≤ 76 → ∀ j : Int, j < kg k → ν' q j = ν q j) (v1 : ν' 71 (kn k : Nat) = (s : Int)) (v2 : ν' 72 (kn k : Nat) = (co : Int)) (v3 : ν' 73 (kn k : Nat) = (he : Int)) (v4 : ν' 74 (kn k : Nat) = (ho : Int)) : DR ν' k0 (kaD k s co he ho) := by
  obtain ⟨a1, a2, a3, a4, a5⟩ := h
  refine ⟨hext, by rw [e1]; exact a2, by rw [e6]; exact a3, fun d hd => ?_, fun g hg => ?_⟩
  · have hd : d < kn k + 1 := hd
    show _ = ((if d = kn k then s else kst k d : Nat) : Int) ∧ _ = ((if d = kn k then co else kco k d : Nat) : Int) ∧ _ = ((if d = kn k then he else khe k d : Nat) : Int) ∧ _ = ((if d = kn k then ho else kho k d : Nat) : Int)
    by_cases hz : d = kn k
    · rw [if_pos hz, if_pos hz, if_pos hz, if_pos hz, hz]
      exact ⟨v1, v2, v3, v4⟩
    · rw [if_neg hz, if_neg hz, if_neg hz, if_neg hz, ed 71 (by decide) (by decide) d (by omega), ed 72 (by decide) (by decide) d (by omega), ed 73 (by decide) (by decide) d (by omega), ed 74 (by decide) (by decide) d (by omega)]
      exact a4 d (by omega)
  · have hg : g < kg k := hg
    rw [eg 75 (by decide) (by decide) g (by omega), eg 76 (by decide) (by decide) g (by omega)]
    exact a5 g hg
theorem DR_G {ν ν' : jM} {k0 k : Kt} {lo ba : Nat} (h : DR ν k0 k) (hext : ext k0 (kaG k lo ba)) (e1 : ν' 69 1 = ν 69 1) (e6 : ν' 69 6 = ν 69 6) (ed : ∀ q, 71 ≤ q → q ≤ 74 → ∀ j : Int, j < kn k → ν' q j = ν q j) (eg : ∀ q, 75 ≤ q → q ≤ 76 → ∀ j : Int, j < kg k → ν' q j = ν q j) (v1 : ν' 75 (kg k : Nat) = (lo : Int)) (v2 : ν' 76 (kg k : Nat) = (ba : Int)) : DR ν' k0 (kaG k lo ba) := by
  obtain ⟨a1, a2, a3, a4, a5⟩ := h
  refine ⟨hext, by rw [e1]; exact a2, by rw [e6]; exact a3, fun d hd => ?_, fun g hg => ?_⟩
  · have hd : d < kn k := hd
    rw [ed 71 (by decide) (by decide) d (by omega), ed 72 (by decide) (by decide) d (by omega), ed 73 (by decide) (by decide) d (by omega), ed 74 (by decide) (by decide) d (by omega)]
    exact a4 d hd
  · have hg : g < kg k + 1 := hg
    show _ = ((if g = kg k then lo else klo k g : Nat) : Int) ∧ _ = ((if g = kg k then ba else kba k g : Nat) : Int)
    by_cases hz : g = kg k
    · rw [if_pos hz, if_pos hz, hz]
      exact ⟨v1, v2⟩
    · rw [if_neg hz, if_neg hz, eg 75 (by decide) (by decide) g (by omega), eg 76 (by decide) (by decide) g (by omega)]
      exact a5 g (by omega)
theorem DR_KR {ν : jM} {k0 k : Kt} (h : DR ν k0 k) (h0 : Kok k0) : KR ν k0 := by
  obtain ⟨⟨-, b1, b2, b3, b4⟩, a2, a3, a4, a5⟩ := h
  refine ⟨h0, a2, a3, fun d hd => ?_, fun g hg => ?_⟩
  · obtain ⟨c1, c2, c3, c4⟩ := b3 d hd
    rw [← c1, ← c2, ← c3, ← c4]
    exact a4 d (by omega)
  · obtain ⟨c1, c2⟩ := b4 g hg
    rw [← c1, ← c2]
    exact a5 g (by omega)
/-- what reading LINES changes -/
def fRk (ν' ν : jM) : Prop := (∀ q, q ≠ 69 → (q < 71 ∨ 76 < q) → ν' q = ν q) ∧ ∀ j : Int, j ≠ 24 → j ≠ 25 → ν' 69 j = ν 69 j
theorem fRk_r (ν : jM) : fRk ν ν := ⟨fun _ _ _ => rfl, fun _ _ _ => rfl⟩
theorem fRk_t {ν1 ν2 ν3 : jM} (h1 : fRk ν2 ν1) (h2 : fRk ν3 ν2) : fRk ν3 ν1 := ⟨fun q a b => (h2.1 q a b).trans (h1.1 q a b), fun j a b => (h2.2 j a b).trans (h1.2 j a b)⟩
theorem fRk_j {ν' ν : jM} (h : fRk ν' ν) {p : Nat} {i : Int} (hp : (p = 69 ∧ (i = 24 ∨ i = 25)) ∨ 71 ≤ p ∧ p ≤ 76) (v : Int) : fRk (jup ν' p i v) ν := ⟨fun q a b => (jup_ne (by omega)).trans (h.1 q a b), fun j a b => (jup_e (by omega)).trans (h.2 j a b)⟩
theorem fRk_RB {ν' ν : jM} (h : fRk ν' ν) {P : Nat} {t : List Nat} {B : Int} (hb : RB ν P t B) : RB ν' P t B := RB_cg hb (fun q hq => h.1 q (by omega) (by omega)) (h.2 21 (by decide) (by decide)) (h.2 22 (by decide) (by decide)) (h.2 23 (by decide) (by decide))
/-- what a LINE comes to -/
def LnR (o : jM → Option jO) (E : Option jO) (ν : jM) (t : List Nat) (k0 k : Kt) (x : Nat ⊕ (Kt × Nat)) : Prop :=
  (∀ q, x = Sum.inl q → ∃ ν', E = o ν' ∧ fRk ν' ν ∧ DR ν' k0 k ∧ ν' 69 25 = (q : Int)) ∧
  ∀ z, x = Sum.inr z → (isl (tcb t 76 z.2) = true ∧ ∃ ν', E = o ν' ∧ fRk ν' ν ∧ DR ν' k0 k ∧ ν' 69 25 = (z.2 : Int)) ∨ (∃ ν', E = o ν' ∧ fRk ν' ν ∧ DR ν' k0 z.1 ∧ ν' 69 25 = -1 ∧ ν' 69 24 = (z.2 : Int))
theorem c_X12_readGuest (d : Nat) {ν : jM} {t : List Nat} {k0 k : Kt} (h : RB ν 80 t 76) (hD : DR ν k0 k) (p : Nat) (hp : ν 69 24 = (p : Int)) (h25 : ν 69 25 = -1) (hp76 : p < 76) (hg : kg k < 6) : LnR rV (CL (d + 4) 222 [jR 69, jI (kg k)] ν) ν t k0 k (lnG (tcb t 76) k p) := by
  obtain ⟨a1, a2, a3, -⟩ := rsF_b (tcb t 76) 76 (kc_o t) 8 0 (p + 1) (by decide) (by omega)
  have a2 : p + 1 ≤ rg1 (tcb t 76) p := a2
  have a3 : rg1 (tcb t 76) p ≤ 76 := a3
  have h1 : RB (jup ν 69 24 ((p + 1 : Nat) : Int)) 80 t 76 := RB_69 h (by decide) _
  -- lost: what remains
  have lost1 : ∀ (m : jM) (q : Nat), m 69 25 = (q : Int) → ∀ u : Int, (bI (CL (d + 3) 218 [jR 69, jI 45] m) fun x2 μ2 => if x2 = 0 then bV (CL (d + 3) 217 [jR 69, jI (μ2 69 24)] μ2) fun μ4 => bI (CL (d + 3) 220 [jR 69, jI 0] μ4) fun x5 μ5 => gd (0 ≤ (kg k : Int) ∧ (kg k : Int) < 6) (rV (jup μ5 76 (kg k : Int) x5)) else bI (CL (d + 3) 220 [jR 69, jI 0] μ2) fun x3 μ3 => gd (0 ≤ (kg k : Int) ∧ (kg k : Int) < 6) (rV (jup μ3 76 (kg k : Int) x3))) = rV (jup m 76 (kg k : Int) 0) := fun m q hq u => by
    have hne : m 69 25 ≠ -1 := by omega
    rw [c_X12_passesN _ hne, bI_r, if_pos rfl, c_X12_faultN _ hne, bV_r, c_X12_lettersN _ hne, bI_r, gd_t (by omega)]
  rw [e_X12_readGuest, hp, w_s p (by omega), c_X12_letters _ h1 (p + 1) (jup_r _ _ _ _) ((jup_m (by decide)).trans h25) 0 (Or.inl rfl)]
  unfold ltO
  rw [jup_jup]
  unfold lnG
  by_cases hl : isl (tcb t 76 (rg1 (tcb t 76) p)) = true
  · have hl2 := isl_i.mp hl
    rw [if_pos (show isl (tcb t 76 (rsF (tcb t 76) 8 0 (p + 1)).2) = true ∨ _ from Or.inl hl), bI_r, gd_t (by omega), lost1 (jup (jup (jup ν 69 24 ((rsF (tcb t 76) 8 0 (p + 1)).2 : Nat)) 69 25 ((rsF (tcb t 76) 8 0 (p + 1)).2 : Nat)) 75 (kg k : Int) 0) (rg1 (tcb t 76) p) ((jup_e (Or.inl (by decide))).trans (jup_r _ _ _ _)) 0, if_neg (by omega)]
    refine ⟨fun q hq => ?_, fun z hz => by cases hz⟩
    cases hq
    refine ⟨_, rfl, fRk_j (fRk_j (fRk_j (fRk_j (fRk_r ν) (by omega) _) (by omega) _) (by omega) _) (by omega) _, DR_cg hD ?_ ?_ (fun q b1 b2 j hj => ?_) (fun q b1 b2 j hj => ?_), ?_⟩
    · (repeat (first | exact jup_r _ _ _ _ | refine (jup_e (by omega)).trans ?_)); rfl
    · (repeat (first | exact jup_r _ _ _ _ | refine (jup_e (by omega)).trans ?_)); rfl
    · (repeat (first | exact jup_r _ _ _ _ | refine (jup_e (by omega)).trans ?_)); rfl
    · (repeat (first | exact jup_r _ _ _ _ | refine (jup_e (by omega)).trans ?_)); rfl
    · (repeat (first | exact jup_r _ _ _ _ | refine (jup_e (by omega)).trans ?_))
  · rw [if_neg (show ¬ (isl (tcb t 76 (rsF (tcb t 76) 8 0 (p + 1)).2) = true ∨ (0 : Int) = 1 ∧ _) from fun z => by rcases z with z | z; exact hl z; omega), bI_r, gd_t (by omega)]
    have hB2 : ∀ v w : Int, RB (jup (jup ν 69 24 v) 75 (kg k : Int) w) 80 t 76 := fun v w => RB_cg h (fun q hq => (jup_ne (by omega)).trans (jup_ne (by omega))) ((jup_e (Or.inl (by decide))).trans (jup_m (by decide))) ((jup_e (Or.inl (by decide))).trans (jup_m (by decide))) ((jup_e (Or.inl (by decide))).trans (jup_m (by decide)))
    have h252 : ∀ v w : Int, jup (jup ν 69 24 v) 75 (kg k : Int) w 69 25 = -1 := fun v w => (jup_e (Or.inl (by decide))).trans ((jup_m (by decide)).trans h25)
    rw [c_X12_passes _ (hB2 ((rsF (tcb t 76) 8 0 (p + 1)).2 : Nat) ((rsF (tcb t 76) 8 0 (p + 1)).1 : Nat)) (rg1 (tcb t 76) p) ((jup_e (Or.inl (by decide))).trans (jup_r _ _ _ _)) (h252 _ _) 45 (by decide)]
    by_cases h45 : tcb t 76 (rg1 (tcb t 76) p) = 45
    · have l1 := tcb_l (t := t) (B := 76) (i := rg1 (tcb t 76) p) (by rw [h45]; decide)
      obtain ⟨b1, b2, b3, -⟩ := rsF_b (tcb t 76) 76 (kc_o t) 8 0 (rg1 (tcb t 76) p + 1) (by decide) (by omega)
      have hext := ext_G hD.1 hg a1 b1
      rw [if_pos h45, if_pos h45, bI_r, if_neg (by decide), c_X12_letters _ (RB_69 (hB2 _ _) (by decide) _) (rg1 (tcb t 76) p + 1) (jup_r _ _ _ _) ((jup_m (by decide)).trans (h252 _ _)) 0 (Or.inl rfl)]
      unfold ltO
      rw [jup_jup]
      refine ⟨fun q hq => (by cases hq), fun z hz => ?_⟩
      cases hz
      by_cases hl3 : isl (tcb t 76 (rsF (tcb t 76) 8 0 (rg1 (tcb t 76) p + 1)).2) = true
      · refine Or.inl ⟨hl3, ?_⟩
        rw [if_pos (show isl (tcb t 76 (rsF (tcb t 76) 8 0 (rg1 (tcb t 76) p + 1)).2) = true ∨ _ from Or.inl hl3), bI_r, gd_t (by omega)]
        refine ⟨_, rfl, fRk_j (fRk_j (fRk_j (fRk_j (fRk_j (fRk_r ν) (by omega) _) (by omega) _) (by omega) _) (by omega) _) (by omega) _, DR_cg hD ?_ ?_ (fun q b1 b2 j hj => ?_) (fun q b1 b2 j hj => ?_), ?_⟩
        · (repeat (first | exact jup_r _ _ _ _ | refine (jup_e (by omega)).trans ?_)); rfl
        · (repeat (first | exact jup_r _ _ _ _ | refine (jup_e (by omega)).trans ?_)); rfl
        · (repeat (first | exact jup_r _ _ _ _ | refine (jup_e (by omega)).trans ?_)); rfl
        · (repeat (first | exact jup_r _ _ _ _ | refine (jup_e (by omega)).trans ?_)); rfl
        · (repeat (first | exact jup_r _ _ _ _ | refine (jup_e (by omega)).trans ?_))
      · refine Or.inr ?_
        rw [if_neg (show ¬ (isl (tcb t 76 (rsF (tcb t 76) 8 0 (rg1 (tcb t 76) p + 1)).2) = true ∨ (0 : Int) = 1 ∧ _) from fun z => by rcases z with z | z; exact hl3 z; omega), bI_r, gd_t (by omega)]
        refine ⟨_, rfl, fRk_j (fRk_j (fRk_j (fRk_j (fRk_r ν) (by omega) _) (by omega) _) (by omega) _) (by omega) _, DR_G hD hext ?_ ?_ (fun q b1 b2 j hj => ?_) (fun q b1 b2 j hj => ?_) ?_ ?_, ?_, ?_⟩
        · (repeat (first | exact jup_r _ _ _ _ | refine (jup_e (by omega)).trans ?_)); rfl
        · (repeat (first | exact jup_r _ _ _ _ | refine (jup_e (by omega)).trans ?_)); rfl
        · (repeat (first | exact jup_r _ _ _ _ | refine (jup_e (by omega)).trans ?_)); rfl
        · (repeat (first | exact jup_r _ _ _ _ | refine (jup_e (by omega)).trans ?_)); rfl
        · (repeat (first | exact jup_r _ _ _ _ | refine (jup_e (by omega)).trans ?_))
        · (repeat (first | exact jup_r _ _ _ _ | refine (jup_e (by omega)).trans ?_))
        · (repeat (first | exact jup_r _ _ _ _ | refine (jup_e (by omega)).trans ?_)); exact h25
        · (repeat (first | exact jup_r _ _ _ _ | refine (jup_e (by omega)).trans ?_))
    · rw [if_neg h45, if_neg h45, bI_r, if_pos rfl, c_X12_fault _ (h252 _ _), bV_r, c_X12_lettersN _ (by rw [jup_r, jup_ne (by decide), jup_r]; omega), bI_r, gd_t (by omega)]
      refine ⟨fun q hq => ?_, fun z hz => by cases hz⟩
      cases hq
      refine ⟨_, rfl, fRk_j (fRk_j (fRk_j (fRk_j (fRk_r ν) (by omega) _) (by omega) _) (by omega) _) (by omega) _, DR_cg hD ?_ ?_ (fun q b1 b2 j hj => ?_) (fun q b1 b2 j hj => ?_), ?_⟩
      · (repeat (first | exact jup_r _ _ _ _ | refine (jup_e (by omega)).trans ?_)); rfl
      · (repeat (first | exact jup_r _ _ _ _ | refine (jup_e (by omega)).trans ?_)); rfl
      · (repeat (first | exact jup_r _ _ _ _ | refine (jup_e (by omega)).trans ?_)); rfl
      · (repeat (first | exact jup_r _ _ _ _ | refine (jup_e (by omega)).trans ?_)); rfl
      · rw [jup_ne (by decide), jup_r, jup_ne (by decide), jup_r]
        rfl
/-- a fault ends it all -/
theorem c_kit_lost (d : Nat) (a1 a2 a3 : Int) (q : Nat) (hq : q ≤ 80) (ν : jM) (h25 : ν 69 25 = (q : Int)) : EV (d + 4) T_X12_kitchen 3 [some (jR 69), some (jI a1), some (jI a2), some (jI a3), none] [] ν = rI (-1 - (q : Int)) ν := by
  have hne : ν 69 25 ≠ -1 := by omega
  have h5 : ∀ a3 : Int, EV (d + 4) T_X12_kitchen 5 [some (jR 69), some (jI a1), some (jI a2), some (jI a3), none] [] ν = rI (-1 - (q : Int)) ν := fun a3 => by
    rw [e_X12_kitchen_5, c_X12_fineN _ hne, bI_r, if_pos rfl, h25, w_id (by omega) (by omega)]
  rw [e_X12_kitchen_3, c_X12_passesN _ hne, bI_r, e_X12_kitchen_1, if_pos rfl, e_X12_kitchen_4]
  by_cases hl : ν 69 24 < ν 69 22
  · rw [if_pos hl, c_X12_faultN _ hne, bV_r, h5]
  · rw [if_neg hl, h5]
/-- a dish's LINE -/
theorem c_kit_dish (d : Nat) {ν : jM} {t : List Nat} {k0 k : Kt} (h : RB ν 80 t 76) (hD : DR ν k0 k) (p n : Nat) (hp : ν 69 24 = (p : Int)) (h25 : ν 69 25 = -1) (hp76 : p ≤ 76) (hn : kn k < 10) (h71 : tcb t 76 p ≠ 71) :
    (∀ q, (if isl (tcb t 76 p) then lnD (tcb t 76) k p else Sum.inl p) = Sum.inl q → ∃ ν', EV (d + 4) T_X12_kitchen 1 [some (jR 69), some (jI (kn k)), some (jI (kg k)), some (jI n), some (jI 1)] [] ν = rI (-1 - (q : Int)) ν' ∧ fRk ν' ν ∧ DR ν' k0 k) ∧
    ∀ z, (if isl (tcb t 76 p) then lnD (tcb t 76) k p else Sum.inl p) = Sum.inr z → ∃ ν', EV (d + 4) T_X12_kitchen 1 [some (jR 69), some (jI (kn k)), some (jI (kg k)), some (jI n), some (jI 1)] [] ν = EV (d + 4) T_X12_kitchen 3 [some (jR 69), some (jI (kn z.1)), some (jI (kg z.1)), some (jI n), none] [] ν' ∧ fRk ν' ν ∧ DR ν' k0 z.1 ∧ ν' 69 25 = -1 ∧ ν' 69 24 = (z.2 : Int) := by
  have h6 : ∀ j : Int, j < (kn k : Int) → j ≠ (kn k : Int) := fun j hj => by omega
  obtain ⟨s1, s2, s3, -⟩ := rsF_b (tcb t 76) 76 (kc_o t) 8 0 p (by decide) hp76
  have s3 : rq1 (tcb t 76) p ≤ 76 := s3
  -- lost: what remains
  have lostD : ∀ (m : jM) (q : Nat), q ≤ 80 → m 69 25 = (q : Int) → (bI (CL (d + 4) 218 [jR 69, jI 43] m) fun x6 μ6 => if x6 = 0 then gd (0 ≤ (kn k : Int) ∧ (kn k : Int) < 11) (EV (d + 4) T_X12_kitchen 3 [some (jR 69), some (jI (w32 ((kn k : Int) + 1))), some (jI (kg k)), some (jI n), none] [] (jup μ6 74 (kn k : Int) 0)) else bI (CL (d + 4) 219 [jR 69, jI 1] μ6) fun x7 μ7 => gd (0 ≤ (kn k : Int) ∧ (kn k : Int) < 11) (EV (d + 4) T_X12_kitchen 3 [some (jR 69), some (jI (w32 ((kn k : Int) + 1))), some (jI (kg k)), some (jI n), none] [] (jup μ7 74 (kn k : Int) x7))) = rI (-1 - (q : Int)) (jup m 74 (kn k : Int) 0) := fun m q hq80 hq => by
    rw [c_X12_passesN _ (by omega), bI_r, if_pos rfl, gd_t (by omega), c_kit_lost d _ _ _ q hq80 _ ((jup_e (Or.inl (by decide))).trans hq)]
  have lostC : ∀ (m : jM) (q : Nat), q ≤ 80 → m 69 25 = (q : Int) → (bI (CL (d + 4) 218 [jR 69, jI 72] m) fun x5 μ5 => gd (0 ≤ (kn k : Int) ∧ (kn k : Int) < 11) (gd (x5 = 0 ∨ x5 = 1) (bI (CL (d + 4) 218 [jR 69, jI 43] (jup μ5 73 (kn k : Int) x5)) fun x6 μ6 => if x6 = 0 then gd (0 ≤ (kn k : Int) ∧ (kn k : Int) < 11) (EV (d + 4) T_X12_kitchen 3 [some (jR 69), some (jI (w32 ((kn k : Int) + 1))), some (jI (kg k)), some (jI n), none] [] (jup μ6 74 (kn k : Int) 0)) else bI (CL (d + 4) 219 [jR 69, jI 1] μ6) fun x7 μ7 => gd (0 ≤ (kn k : Int) ∧ (kn k : Int) < 11) (EV (d + 4) T_X12_kitchen 3 [some (jR 69), some (jI (w32 ((kn k : Int) + 1))), some (jI (kg k)), some (jI n), none] [] (jup μ7 74 (kn k : Int) x7))))) = rI (-1 - (q : Int)) (jup (jup m 73 (kn k : Int) 0) 74 (kn k : Int) 0) := fun m q hq80 hq => by
    rw [c_X12_passesN _ (by omega), bI_r, gd_t (by omega), gd_t (by omega), lostD _ q hq80 ((jup_e (Or.inl (by decide))).trans hq)]
  rw [e_X12_kitchen_1, if_neg (show ¬ (1 : Int) = 0 by decide), c_X12_fine _ h25, bI_r, if_neg (show ¬ (1 : Int) = 0 by decide), c_X12_here _ h p hp, bI_r, if_neg (show ¬ hz t 76 p = 71 from fun z => h71 ((hz_e h.2.2.2.2.2.1 76 p (by decide)).mp z)), if_neg (show ¬ (kn k : Int) = 10 by omega), c_X12_letters _ h p hp h25 1 (Or.inr rfl)]
  unfold ltO
  -- letters
  have badA : ∀ q : Nat, q = (rsF (tcb t 76) 8 0 p).2 → q ≤ 80 → (isl (tcb t 76 q) = true ∨ (rsF (tcb t 76) 8 0 p).1 = 0) → ∃ ν', (bI (if isl (tcb t 76 (rsF (tcb t 76) 8 0 p).2) = true ∨ (1 : Int) = 1 ∧ (rsF (tcb t 76) 8 0 p).1 = 0 then rI 0 (jup (jup ν 69 24 ((rsF (tcb t 76) 8 0 p).2 : Nat)) 69 25 ((rsF (tcb t 76) 8 0 p).2 : Nat)) else rI ((rsF (tcb t 76) 8 0 p).1 : Nat) (jup ν 69 24 ((rsF (tcb t 76) 8 0 p).2 : Nat))) fun x3 μ3 => gd (0 ≤ (kn k : Int) ∧ (kn k : Int) < 11) (bI (CL (d + 4) 219 [jR 69, jI 2] (jup μ3 71 (kn k : Int) x3)) fun x4 μ4 => gd (0 ≤ (kn k : Int) ∧ (kn k : Int) < 11) (bI (CL (d + 4) 218 [jR 69, jI 72] (jup μ4 72 (kn k : Int) x4)) fun x5 μ5 => gd (0 ≤ (kn k : Int) ∧ (kn k : Int) < 11) (gd (x5 = 0 ∨ x5 = 1) (bI (CL (d + 4) 218 [jR 69, jI 43] (jup μ5 73 (kn k : Int) x5)) fun x6 μ6 => if x6 = 0 then gd (0 ≤ (kn k : Int) ∧ (kn k : Int) < 11) (EV (d + 4) T_X12_kitchen 3 [some (jR 69), some (jI (w32 ((kn k : Int) + 1))), some (jI (kg k)), some (jI n), none] [] (jup μ6 74 (kn k : Int) 0)) else bI (CL (d + 4) 219 [jR 69, jI 1] μ6) fun x7 μ7 => gd (0 ≤ (kn k : Int) ∧ (kn k : Int) < 11) (EV (d + 4) T_X12_kitchen 3 [some (jR 69), some (jI (w32 ((kn k : Int) + 1))), some (jI (kg k)), some (jI n), none] [] (jup μ7 74 (kn k : Int) x7))))))) = rI (-1 - (q : Int)) ν' ∧ fRk ν' ν ∧ DR ν' k0 k := fun q hq hq80 hc => by
    have hc2 : isl (tcb t 76 (rsF (tcb t 76) 8 0 p).2) = true ∨ (1 : Int) = 1 ∧ (rsF (tcb t 76) 8 0 p).1 = 0 := by
      rcases hc with z | z
      · rw [hq] at z
        exact Or.inl z
      · exact Or.inr ⟨rfl, z⟩
    have e25 : ∀ w : Int, jup (jup (jup ν 69 24 ((rsF (tcb t 76) 8 0 p).2 : Nat)) 69 25 ((rsF (tcb t 76) 8 0 p).2 : Nat)) 71 (kn k : Int) w 69 25 = (q : Int) := fun w => by
      rw [jup_ne (by decide), jup_r, hq]
    rw [if_pos hc2, bI_r, gd_t (by omega), c_X12_numberN _ (by rw [e25]; omega), bI_r, gd_t (by omega), lostC _ q hq80 ((jup_e (Or.inl (by decide))).trans (e25 0))]
    refine ⟨_, rfl, fRk_j (fRk_j (fRk_j (fRk_j (fRk_j (fRk_j (fRk_r ν) (by omega) _) (by omega) _) (by omega) _) (by omega) _) (by omega) _) (by omega) _, DR_cg hD ?_ ?_ (fun q b1 b2 j hj => ?_) (fun q b1 b2 j hj => ?_)⟩
    · (repeat (first | exact jup_r _ _ _ _ | refine (jup_e (by omega)).trans ?_)); rfl
    · (repeat (first | exact jup_r _ _ _ _ | refine (jup_e (by omega)).trans ?_)); rfl
    · (repeat (first | exact jup_r _ _ _ _ | refine (jup_e (by omega)).trans ?_)); rfl
    · (repeat (first | exact jup_r _ _ _ _ | refine (jup_e (by omega)).trans ?_)); rfl
  by_cases hl0 : isl (tcb t 76 p) = true
  · obtain ⟨r1, r2, r3, r4⟩ := rp_b (kc_o t) hp76 hl0
    rw [if_pos hl0]
    by_cases hl : isl (tcb t 76 (rq1 (tcb t 76) p)) = true
    · have hl2 := isl_i.mp hl
      unfold lnD
      rw [if_neg (fun z => by have := isd_i.mp z; omega)]
      refine ⟨fun q hq => ?_, fun z hz => by cases hz⟩
      cases hq
      exact badA (rq1 (tcb t 76) p) rfl (by omega) (Or.inl hl)
    · have hng : ¬ (isl (tcb t 76 (rsF (tcb t 76) 8 0 p).2) = true ∨ (1 : Int) = 1 ∧ (rsF (tcb t 76) 8 0 p).1 = 0) := fun z => by
        rcases z with z | z
        · exact hl z
        · have r3 : 0 < (rsF (tcb t 76) 8 0 p).1 := r3
          omega
      let s : Nat := (rsF (tcb t 76) 8 0 p).1
      let ν1 : jM := jup (jup ν 69 24 (rq1 (tcb t 76) p : Nat)) 71 (kn k : Int) (s : Nat)
      have hB1 : RB ν1 80 t 76 := RB_cg h (fun q hq => (jup_ne (by omega)).trans (jup_ne (by omega))) ((jup_e (Or.inl (by decide))).trans (jup_m (by decide))) ((jup_e (Or.inl (by decide))).trans (jup_m (by decide))) ((jup_e (Or.inl (by decide))).trans (jup_m (by decide)))
      have e124 : ν1 69 24 = (rq1 (tcb t 76) p : Nat) := (jup_e (Or.inl (by decide))).trans (jup_r _ _ _ _)
      have e125 : ν1 69 25 = -1 := (jup_e (Or.inl (by decide))).trans ((jup_m (by decide)).trans h25)
      have num2 : CL (d + 4) 219 [jR 69, jI 2] ν1 = if (nmF (tcb t 76) 2 0 (rq1 (tcb t 76) p)).2 = rq1 (tcb t 76) p then rI (nmF (tcb t 76) 2 0 (rq1 (tcb t 76) p)).1 (jup ν1 69 25 (rq1 (tcb t 76) p)) else rI (nmF (tcb t 76) 2 0 (rq1 (tcb t 76) p)).1 (jup ν1 69 24 ((nmF (tcb t 76) 2 0 (rq1 (tcb t 76) p)).2 : Nat)) := c_X12_number (d + 1) hB1 (rq1 (tcb t 76) p) e124 e125 (by omega) 2 (by decide)
      rw [if_neg hng, bI_r, gd_t (by omega)]
      unfold lnD
      cases hd : isd (tcb t 76 (rq1 (tcb t 76) p)) with
      | false =>
        have e2 : nmF (tcb t 76) 2 0 (rq1 (tcb t 76) p) = (0, rq1 (tcb t 76) p) := nmF_n hd
        rw [e2, if_pos rfl] at num2
        rw [if_neg (by decide), show CL (d + 4) 219 [jR 69, jI 2] (jup (jup ν 69 24 ((rsF (tcb t 76) 8 0 p).2 : Nat)) 71 (kn k : Int) ((rsF (tcb t 76) 8 0 p).1 : Nat)) = _ from num2, bI_r, gd_t (by omega), lostC _ (rq1 (tcb t 76) p) (by omega) ((jup_e (Or.inl (by decide))).trans (jup_r _ _ _ _))]
        refine ⟨fun q hq => ?_, fun z hz => by cases hz⟩
        cases hq
        refine ⟨_, rfl, fRk_j (fRk_j (fRk_j (fRk_j (fRk_j (fRk_j (fRk_r ν) (by omega) _) (by omega) _) (by omega) _) (by omega) _) (by omega) _) (by omega) _, DR_cg hD ?_ ?_ (fun q b1 b2 j hj => ?_) (fun q b1 b2 j hj => ?_)⟩
        · (repeat (first | exact jup_r _ _ _ _ | refine (jup_e (by omega)).trans ?_)); rfl
        · (repeat (first | exact jup_r _ _ _ _ | refine (jup_e (by omega)).trans ?_)); rfl
        · (repeat (first | exact jup_r _ _ _ _ | refine (jup_e (by omega)).trans ?_)); rfl
        · (repeat (first | exact jup_r _ _ _ _ | refine (jup_e (by omega)).trans ?_)); rfl
      | true =>
        have h48 := isd_i.mp hd
        obtain ⟨b1, b2, b3, b4, b5, b6⟩ := rp_c (kc_o t) hd
        have e2 : nmF (tcb t 76) 2 0 (rq1 (tcb t 76) p) = (((rco (tcb t 76) p : Nat) : Int), rq2 (tcb t 76) p) := by
          rw [nmF_y hd]
          unfold rco rq2
          cases h2 : rtwo (tcb t 76) p with
          | true =>
            have h3 := isd_i.mp h2
            rw [nmF_y h2, if_pos rfl, if_pos rfl]
            show ((10 * (10 * 0 + (tcb t 76 (rq1 (tcb t 76) p) - 48)) + (tcb t 76 (rq1 (tcb t 76) p + 1) - 48), rq1 (tcb t 76) p + 2) : Int × Nat) = _
            rw [Int.toNat_of_nonneg (by omega), show 10 * (10 * 0 + (tcb t 76 (rq1 (tcb t 76) p) - 48)) + (tcb t 76 (rq1 (tcb t 76) p + 1) - 48) = 10 * (tcb t 76 (rq1 (tcb t 76) p) - 48) + (tcb t 76 (rq1 (tcb t 76) p + 1) - 48) by omega]
          | false =>
            rw [nmF_n h2, if_neg (by decide), if_neg (by decide), Int.toNat_of_nonneg (by omega), show 10 * 0 + (tcb t 76 (rq1 (tcb t 76) p) - 48) = tcb t 76 (rq1 (tcb t 76) p) - 48 by omega]
        rw [e2, if_neg (show ¬ rq2 (tcb t 76) p = rq1 (tcb t 76) p by omega)] at num2
        let ν2 : jM := jup (jup ν1 69 24 (rq2 (tcb t 76) p : Nat)) 72 (kn k : Int) (rco (tcb t 76) p : Nat)
        have hB2 : RB ν2 80 t 76 := RB_cg hB1 (fun q hq => (jup_ne (by omega)).trans (jup_ne (by omega))) ((jup_e (Or.inl (by decide))).trans (jup_m (by decide))) ((jup_e (Or.inl (by decide))).trans (jup_m (by decide))) ((jup_e (Or.inl (by decide))).trans (jup_m (by decide)))
        have e224 : ν2 69 24 = (rq2 (tcb t 76) p : Nat) := (jup_e (Or.inl (by decide))).trans (jup_r _ _ _ _)
        have e225 : ν2 69 25 = -1 := (jup_e (Or.inl (by decide))).trans ((jup_m (by decide)).trans e125)
        let ν3 : jM := jup (jup ν2 69 24 (rq3 (tcb t 76) p : Nat)) 73 (kn k : Int) (rhe (tcb t 76) p : Nat)
        have hB3 : RB ν3 80 t 76 := RB_cg hB2 (fun q hq => (jup_ne (by omega)).trans (jup_ne (by omega))) ((jup_e (Or.inl (by decide))).trans (jup_m (by decide))) ((jup_e (Or.inl (by decide))).trans (jup_m (by decide))) ((jup_e (Or.inl (by decide))).trans (jup_m (by decide)))
        have e324 : ν3 69 24 = (rq3 (tcb t 76) p : Nat) := (jup_e (Or.inl (by decide))).trans (jup_r _ _ _ _)
        have e325 : ν3 69 25 = -1 := (jup_e (Or.inl (by decide))).trans ((jup_m (by decide)).trans e225)
        have heat : ∀ K : Int → jM → Option jO, (bI (CL (d + 4) 218 [jR 69, jI 72] ν2) fun x5 μ5 => gd (0 ≤ (kn k : Int) ∧ (kn k : Int) < 11) (gd (x5 = 0 ∨ x5 = 1) (bI (CL (d + 4) 218 [jR 69, jI 43] (jup μ5 73 (kn k : Int) x5)) K))) = bI (CL (d + 4) 218 [jR 69, jI 43] ν3) K := fun K => by
          rw [c_X12_passes _ hB2 (rq2 (tcb t 76) p) e224 e225 72 (by decide)]
          show _ = bI (CL (d + 4) 218 [jR 69, jI 43] (jup (jup ν2 69 24 ((rq2 (tcb t 76) p + rhe (tcb t 76) p : Nat) : Int)) 73 (kn k : Int) (rhe (tcb t 76) p : Nat))) K
          unfold rhe
          by_cases h72 : tcb t 76 (rq2 (tcb t 76) p) = 72
          · rw [if_pos h72, if_pos h72, bI_r, gd_t (by omega), gd_t (by omega)]
            rfl
          · rw [if_neg h72, if_neg h72, bI_r, gd_t (by omega), gd_t (by omega), jup_id (v := ((rq2 (tcb t 76) p + 0 : Nat) : Int)) e224]
            rfl
        rw [if_pos rfl, show CL (d + 4) 219 [jR 69, jI 2] (jup (jup ν 69 24 ((rsF (tcb t 76) 8 0 p).2 : Nat)) 71 (kn k : Int) ((rsF (tcb t 76) 8 0 p).1 : Nat)) = _ from num2, bI_r, gd_t (by omega)]
        rw [show ∀ K : Int → jM → Option jO, (bI (CL (d + 4) 218 [jR 69, jI 72] (jup (jup ν1 69 24 (rq2 (tcb t 76) p : Nat)) 72 (kn k : Int) (rco (tcb t 76) p : Nat))) fun x5 μ5 => gd (0 ≤ (kn k : Int) ∧ (kn k : Int) < 11) (gd (x5 = 0 ∨ x5 = 1) (bI (CL (d + 4) 218 [jR 69, jI 43] (jup μ5 73 (kn k : Int) x5)) K))) = bI (CL (d + 4) 218 [jR 69, jI 43] ν3) K from heat]
        rw [c_X12_passes _ hB3 (rq3 (tcb t 76) p) e324 e325 43 (by decide), w_s (kn k) (by omega)]
        by_cases h43 : tcb t 76 (rq3 (tcb t 76) p) = 43
        · have l3 := tcb_l (t := t) (B := 76) (i := rq3 (tcb t 76) p) (by rw [h43]; decide)
          let ν4 : jM := jup ν3 69 24 ((rq3 (tcb t 76) p + 1 : Nat) : Int)
          have hB4 : RB ν4 80 t 76 := RB_69 hB3 (by decide) _
          have num1 : CL (d + 4) 219 [jR 69, jI 1] ν4 = if (nmF (tcb t 76) 1 0 (rq3 (tcb t 76) p + 1)).2 = rq3 (tcb t 76) p + 1 then rI (nmF (tcb t 76) 1 0 (rq3 (tcb t 76) p + 1)).1 (jup ν4 69 25 ((rq3 (tcb t 76) p + 1 : Nat) : Int)) else rI (nmF (tcb t 76) 1 0 (rq3 (tcb t 76) p + 1)).1 (jup ν4 69 24 ((nmF (tcb t 76) 1 0 (rq3 (tcb t 76) p + 1)).2 : Nat)) := c_X12_number (d + 1) hB4 (rq3 (tcb t 76) p + 1) (jup_r _ _ _ _) ((jup_m (by decide)).trans e325) (by omega) 1 (by decide)
          rw [if_pos h43, if_pos h43, bI_r, if_neg (show ¬ (1 : Int) = 0 by decide), show CL (d + 4) 219 [jR 69, jI 1] (jup ν3 69 24 ((rq3 (tcb t 76) p + 1 : Nat) : Int)) = _ from num1]
          cases hd2 : isd (tcb t 76 (rq3 (tcb t 76) p + 1)) with
          | false =>
            have e3 : nmF (tcb t 76) 1 0 (rq3 (tcb t 76) p + 1) = (0, rq3 (tcb t 76) p + 1) := nmF_n hd2
            rw [e3, if_pos rfl, bI_r, gd_t (by omega), c_kit_lost d _ _ _ (rq3 (tcb t 76) p + 1) (by omega) _ ((jup_e (Or.inl (by decide))).trans (jup_r _ _ _ _)), if_neg (by decide)]
            refine ⟨fun q hq => ?_, fun z hz => by cases hz⟩
            cases hq
            refine ⟨_, rfl, fRk_j (fRk_j (fRk_j (fRk_j (fRk_j (fRk_j (fRk_j (fRk_j (fRk_j (fRk_r ν) (by omega) _) (by omega) _) (by omega) _) (by omega) _) (by omega) _) (by omega) _) (by omega) _) (by omega) _) (by omega) _, DR_cg hD ?_ ?_ (fun q b1 b2 j hj => ?_) (fun q b1 b2 j hj => ?_)⟩
            · (repeat (first | exact jup_r _ _ _ _ | refine (jup_e (by omega)).trans ?_)); rfl
            · (repeat (first | exact jup_r _ _ _ _ | refine (jup_e (by omega)).trans ?_)); rfl
            · (repeat (first | exact jup_r _ _ _ _ | refine (jup_e (by omega)).trans ?_)); rfl
            · (repeat (first | exact jup_r _ _ _ _ | refine (jup_e (by omega)).trans ?_)); rfl
          | true =>
            have h49 := isd_i.mp hd2
            obtain ⟨ho, hho⟩ : ∃ x : Nat, tcb t 76 (rq3 (tcb t 76) p + 1) - 48 = (x : Int) := Int.eq_ofNat_of_zero_le (by omega)
            have e3 : nmF (tcb t 76) 1 0 (rq3 (tcb t 76) p + 1) = ((ho : Int), rq3 (tcb t 76) p + 2) := by
              rw [nmF_y hd2]
              show ((10 * 0 + (tcb t 76 (rq3 (tcb t 76) p + 1) - 48), rq3 (tcb t 76) p + 2) : Int × Nat) = _
              rw [hho, Int.mul_zero, Int.zero_add]
            have hext := ext_D hD.1 hn r3 r4 b5 b6 (show ho ≤ 9 by omega)
            rw [e3, if_neg (show ¬ rq3 (tcb t 76) p + 2 = rq3 (tcb t 76) p + 1 by omega), bI_r, gd_t (by omega), if_pos rfl, hho, Int.toNat_natCast]
            refine ⟨fun q hq => (by cases hq), fun z hz => ?_⟩
            cases hz
            refine ⟨_, rfl, fRk_j (fRk_j (fRk_j (fRk_j (fRk_j (fRk_j (fRk_j (fRk_j (fRk_j (fRk_r ν) (by omega) _) (by omega) _) (by omega) _) (by omega) _) (by omega) _) (by omega) _) (by omega) _) (by omega) _) (by omega) _, DR_D hD hext ?_ ?_ (fun q b1 b2 j hj => ?_) (fun q b1 b2 j hj => ?_) ?_ ?_ ?_ ?_, ?_, ?_⟩
            · (repeat (first | exact jup_r _ _ _ _ | refine (jup_e (by omega)).trans ?_)); rfl
            · (repeat (first | exact jup_r _ _ _ _ | refine (jup_e (by omega)).trans ?_)); rfl
            · (repeat (first | exact jup_r _ _ _ _ | refine (jup_e (by omega)).trans ?_)); rfl
            · (repeat (first | exact jup_r _ _ _ _ | refine (jup_e (by omega)).trans ?_)); rfl
            · (repeat (first | exact jup_r _ _ _ _ | refine (jup_e (by omega)).trans ?_))
            · (repeat (first | exact jup_r _ _ _ _ | refine (jup_e (by omega)).trans ?_))
            · (repeat (first | exact jup_r _ _ _ _ | refine (jup_e (by omega)).trans ?_))
            · (repeat (first | exact jup_r _ _ _ _ | refine (jup_e (by omega)).trans ?_))
            · (repeat (first | exact jup_r _ _ _ _ | refine (jup_e (by omega)).trans ?_)); exact h25
            · (repeat (first | exact jup_r _ _ _ _ | refine (jup_e (by omega)).trans ?_))
        · have hext := ext_D hD.1 hn r3 r4 b5 b6 (show 0 ≤ 9 by decide)
          rw [if_neg h43, if_neg h43, bI_r, if_pos rfl, gd_t (by omega)]
          refine ⟨fun q hq => (by cases hq), fun z hz => ?_⟩
          cases hz
          refine ⟨_, rfl, fRk_j (fRk_j (fRk_j (fRk_j (fRk_j (fRk_j (fRk_j (fRk_r ν) (by omega) _) (by omega) _) (by omega) _) (by omega) _) (by omega) _) (by omega) _) (by omega) _, DR_D hD hext ?_ ?_ (fun q b1 b2 j hj => ?_) (fun q b1 b2 j hj => ?_) ?_ ?_ ?_ ?_, ?_, ?_⟩
          · (repeat (first | exact jup_r _ _ _ _ | refine (jup_e (by omega)).trans ?_)); rfl
          · (repeat (first | exact jup_r _ _ _ _ | refine (jup_e (by omega)).trans ?_)); rfl
          · (repeat (first | exact jup_r _ _ _ _ | refine (jup_e (by omega)).trans ?_)); rfl
          · (repeat (first | exact jup_r _ _ _ _ | refine (jup_e (by omega)).trans ?_)); rfl
          · (repeat (first | exact jup_r _ _ _ _ | refine (jup_e (by omega)).trans ?_))
          · (repeat (first | exact jup_r _ _ _ _ | refine (jup_e (by omega)).trans ?_))
          · (repeat (first | exact jup_r _ _ _ _ | refine (jup_e (by omega)).trans ?_))
          · exact jup_r _ _ _ _
          · (repeat (first | exact jup_r _ _ _ _ | refine (jup_e (by omega)).trans ?_)); exact h25
          · (repeat (first | exact jup_r _ _ _ _ | refine (jup_e (by omega)).trans ?_))
  · rw [if_neg hl0]
    have e0 : rsF (tcb t 76) 8 0 p = (0, p) := rsF_n (fun z => hl0 z.1)
    refine ⟨fun q hq => ?_, fun z hz => by cases hz⟩
    cases hq
    exact badA p (by rw [e0]) (by omega) (Or.inr (by rw [e0]))
