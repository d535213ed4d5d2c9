/-! ## THE RULE read: the class -/
theorem qc_o (t : List Nat) : ∀ i, 40 ≤ i → tcb t 40 i = -1 := fun i h => tcb_o (by omega)
theorem jup_nf {μ : jM} {p q : Nat} {i j v : Int} (h : q ≠ p) : jup μ p i v q j = μ q j := jup_n h
def fTs (μ' μ : jM) : Prop := (∀ q, q ≠ 12 → q ≠ 14 → μ' q = μ q) ∧ ∀ j : Int, j ≠ 4 → j ≠ 6 → μ' 12 j = μ 12 j
theorem fTs_r (μ : jM) : fTs μ μ := ⟨fun _ _ _ => rfl, fun _ _ _ => rfl⟩
theorem fTs_t {μ1 μ2 μ3 : jM} (h1 : fTs μ2 μ1) (h2 : fTs μ3 μ2) : fTs μ3 μ1 := ⟨fun q a b => (h2.1 q a b).trans (h1.1 q a b), fun j a b => (h2.2 j a b).trans (h1.2 j a b)⟩
theorem fTs_6 (μ : jM) (v : Int) : fTs (jup μ 12 6 v) μ := ⟨fun q a _ => jup_ne a, fun j _ b => jup_m b⟩
theorem fTs_TC {μ' μ : jM} {t : List Nat} (f : fTs μ' μ) (h : TC μ t) : TC μ' t := TC_cg h (f.1 1 (by decide) (by decide)) (f.1 2 (by decide) (by decide))
/-- the draft holds codes, the reading is at a place -/
def StC (μ : jM) (t : List Nat) (l : List Int) (p : Nat) : Prop := TC μ t ∧ μ 12 6 = (p : Int) ∧ μ 12 4 = (l.length : Int) ∧ l.length ≤ p ∧ p ≤ 40 ∧ ∀ i : Nat, i < l.length → μ 14 (i : Int) = l.getD i 0
/-- lost: only where -/
def StL (μ : jM) (t : List Nat) (p : Nat) : Prop := TC μ t ∧ μ 12 6 = (p : Int) ∧ p ≤ 40 ∧ ∃ n : Nat, μ 12 4 = (n : Int) ∧ n ≤ 40
theorem StC_L {μ : jM} {t : List Nat} {l : List Int} {p : Nat} (h : StC μ t l p) : StL μ t p := ⟨h.1, h.2.1, h.2.2.2.2.1, l.length, h.2.2.1, Nat.le_trans h.2.2.2.1 h.2.2.2.2.1⟩
theorem StC_6 {μ : jM} {t : List Nat} {l : List Int} {p q : Nat} (h : StC μ t l p) (h1 : p ≤ q) (h2 : q ≤ 40) : StC (jup μ 12 6 (q : Nat)) t l q := ⟨TC_cg h.1 (jup_ne (by decide)) (jup_ne (by decide)), jup_r _ _ _ _, (jup_m (by decide)).trans h.2.2.1, Nat.le_trans h.2.2.2.1 h1, h2, fun i hi => (jup_nf (by decide)).trans (h.2.2.2.2.2 i hi)⟩
theorem StL_6 {μ : jM} {t : List Nat} {p q : Nat} (h : StL μ t p) (h2 : q ≤ 40) : StL (jup μ 12 6 (q : Nat)) t q := by
  obtain ⟨a, b, c, n, d, e⟩ := h
  exact ⟨TC_cg a (jup_ne (by decide)) (jup_ne (by decide)), jup_r _ _ _ _, h2, n, (jup_m (by decide)).trans d, e⟩
theorem c_X9_emit0 (d : Nat) {μ : jM} {l : List Int} (a3 : μ 12 4 = (l.length : Int)) (hl : l.length < 40) (a6 : ∀ i : Nat, i < l.length → μ 14 (i : Int) = l.getD i 0) (x : Int) : ∃ μ', CL (d + 1) 132 [jR 12, jI x] μ = rV μ' ∧ fTs μ' μ ∧ μ' 12 6 = μ 12 6 ∧ μ' 12 4 = ((l ++ [x]).length : Int) ∧ ∀ i : Nat, i < (l ++ [x]).length → μ' 14 (i : Int) = (l ++ [x]).getD i 0 := by
  rw [e_X9_emit, a3, if_pos (by omega), gd_t (by omega), jup_ne (show (12 : Nat) ≠ 14 by decide), a3, w_s _ (by omega)]
  refine ⟨_, rfl, ⟨fun q b c => (jup_ne b).trans (jup_ne c), fun j b c => (jup_m b).trans (jup_nf (by decide))⟩, (jup_m (by decide)).trans (jup_nf (by decide)), by rw [jup_r, List.length_append]; rfl, fun i hi => ?_⟩
  rw [List.length_append] at hi
  have hi : i < l.length + 1 := hi
  rw [jup_ne (by decide)]
  by_cases hz : i = l.length
  · rw [hz, jup_r, List.getD_eq_getElem?_getD, List.getElem?_append_right (Nat.le_refl _), Nat.sub_self]
    rfl
  · rw [jup_m (by omega), a6 i (by omega), List.getD_eq_getElem?_getD, List.getD_eq_getElem?_getD, List.getElem?_append_left (by omega)]
theorem c_X9_emit (d : Nat) {μ : jM} {t : List Nat} {l : List Int} {p : Nat} (h : StC μ t l p) (hl : l.length < 40) (hp : l.length < p) (x : Int) : ∃ μ', CL (d + 1) 132 [jR 12, jI x] μ = rV μ' ∧ fTs μ' μ ∧ StC μ' t (l ++ [x]) p := by
  obtain ⟨a1, a2, a3, a4, a5, a6⟩ := h
  obtain ⟨μ', e, f, g1, g2, g3⟩ := c_X9_emit0 d a3 hl a6 x
  exact ⟨μ', e, f, fTs_TC f a1, g1.trans a2, g2, by rw [List.length_append]; show l.length + 1 ≤ p; omega, a5, g3⟩
theorem c_X9_emitL (d : Nat) {μ : jM} {t : List Nat} {p : Nat} (h : StL μ t p) (x : Int) : ∃ μ', CL (d + 1) 132 [jR 12, jI x] μ = rV μ' ∧ fTs μ' μ ∧ StL μ' t p := by
  obtain ⟨a1, a2, a3, n, a4, a5⟩ := h
  rw [e_X9_emit, a4]
  by_cases hn : n < 40
  · rw [if_pos (by omega), gd_t (by omega), jup_ne (show (12 : Nat) ≠ 14 by decide), a4, w_s _ (by omega)]
    exact ⟨_, rfl, ⟨fun q b c => (jup_ne b).trans (jup_ne c), fun j b c => (jup_m b).trans (jup_nf (by decide))⟩, TC_cg a1 ((jup_ne (by decide)).trans (jup_ne (by decide))) ((jup_ne (by decide)).trans (jup_ne (by decide))), (jup_m (by decide)).trans ((jup_nf (by decide)).trans a2), a3, n + 1, jup_r _ _ _ _, by omega⟩
  · rw [if_neg (by omega)]
    exact ⟨μ, rfl, fTs_r μ, a1, a2, a3, n, a4, a5⟩
theorem c_X9_isQuality (d : Nat) (μ : jM) (x : Int) : CL (d + 1) 131 [jI x] μ = rI (if isq x then 1 else 0) μ := by
  rw [e_X9_isQuality]
  cases h : isq x with
  | true =>
    have h1 := isq_i.mp h
    rcases h1 with rfl | rfl | rfl | rfl | rfl | rfl | rfl | rfl <;> rfl
  | false =>
    have h1 := isq_n.mp h
    rw [if_neg (by omega), if_neg (by omega), if_neg (by omega), if_neg (show ¬ (false = true) by decide)]
    by_cases z1 : x = 101
    · rw [if_pos z1, gd_t (by omega)]
    rw [if_neg z1]
    by_cases z2 : x = 102
    · rw [if_pos z2, gd_t (by omega)]
    rw [if_neg z2, if_neg (by omega), if_neg (by omega)]
    by_cases z3 : x = 105
    · rw [if_pos z3, gd_t (by omega)]
    rw [if_neg z3]
    by_cases z4 : x = 106
    · rw [if_pos z4, gd_t (by omega)]
    rw [if_neg z4]
    by_cases z5 : x = 107
    · rw [if_pos z5, gd_t (by omega)]
    rw [if_neg z5, if_neg (by omega)]
    by_cases z6 : x = 109
    · rw [if_pos z6, gd_t (by omega)]
    rw [if_neg z6, if_neg (by omega), if_neg (by omega), gd_t (by omega)]
theorem c_X9_readNumber_1 (d : Nat) {t : List Nat} {l : List Int} : ∀ (r k : Nat) (v : Int) (p : Nat) (μ : jM), k + r = 3 → StC μ t l p → 0 ≤ v → v ≤ nb r → (r = 3 → isd (tcb t 40 p) = true) → (r < 3 → l.length < p) → ∃ μ', EV (d + 2) T_X9_readNumber 1 [some (jR 12), some (jR 1), some (jI v), some (jI k)] [] μ = rV μ' ∧ fTs μ' μ ∧ StC μ' t (l ++ [(nmF (tcb t 40) r v p).1]) (nmF (tcb t 40) r v p).2 := by
  intro r
  induction r with
  | zero =>
    intro k v p μ hk h h0 hv hd hlp
    have hp := hlp (by decide)
    have h40 := h.2.2.2.2.1
    obtain ⟨μ', e, f, s⟩ := c_X9_emit (d + 1) h (by omega) hp v
    refine ⟨μ', ?_, f, s⟩
    rw [e_X9_readNumber_1, if_neg (by omega), e, bV_r]
  | succ r ih =>
    intro k v p μ hk h h0 hv hd hlp
    have h' := h
    obtain ⟨a1, a2, a3, a4, a5, a6⟩ := h
    rw [e_X9_readNumber_1, if_pos (by omega), a2, c_X10_hasDigit _ a1, bI_r]
    cases hq : isd (tcb t 40 p) with
    | false =>
      have hlt : l.length < p := hlp (by
        rcases (show r + 1 < 3 ∨ r + 1 = 3 by omega) with z | z
        · exact z
        · rw [hd z] at hq
          cases hq)
      rw [z_f, nmF_n hq]
      obtain ⟨μ', e, f, s⟩ := c_X9_emit (d + 1) h' (by omega) hlt v
      exact ⟨μ', by rw [e, bV_r], f, s⟩
    | true =>
      have h1 := isd_i.mp hq
      have l1 := tcb_l (t := t) (B := 40) (i := p) (by omega)
      have hvb : v ≤ 99 ∧ 10 * v + 9 ≤ nb r := by
        unfold nb at hv ⊢
        rcases (show r = 0 ∨ r = 1 ∨ r = 2 by omega) with rfl | rfl | rfl
        · have hv : v ≤ 99 := hv
          exact ⟨hv, by show 10 * v + 9 ≤ 999; omega⟩
        · have hv : v ≤ 9 := hv
          exact ⟨by omega, by show 10 * v + 9 ≤ 99; omega⟩
        · have hv : v ≤ 0 := hv
          exact ⟨by omega, by show 10 * v + 9 ≤ 9; omega⟩
      obtain ⟨μ', e, f, s⟩ := ih (k + 1) (10 * v + (tcb t 40 p - 48)) (p + 1) (jup μ 12 6 ((p + 1 : Nat) : Int)) (by omega) (StC_6 h' (by omega) (by omega)) (by omega) (by omega) (fun z => by omega) (fun _ => by omega)
      refine ⟨μ', ?_, fTs_t (fTs_6 μ _) f, by rw [nmF_y hq]; exact s⟩
      rw [z_t, a2, c_X10_atB _ a1, bI_r, a2, w_s p (by omega), w_s k (by omega), w_id (x := 10 * v) (by omega) (by omega), w_id (x := 10 * v + tcb t 40 p) (by omega) (by omega), w_id (x := 10 * v + tcb t 40 p - 48) (by omega) (by omega), show 10 * v + tcb t 40 p - 48 = 10 * v + (tcb t 40 p - 48) by omega, e]
/-- what a reading comes to -/
def RdC (E : Option jO) (μ : jM) (t : List Nat) (l : List Int) (x : Rz) : Prop := (∀ q, x = Sum.inl q → ∃ μ', E = rI 0 μ' ∧ fTs μ' μ ∧ StL μ' t q) ∧ ∀ z, x = Sum.inr z → ∃ μ', E = rI 1 μ' ∧ fTs μ' μ ∧ StC μ' t (l ++ z.1) z.2
theorem RdC_l {E : Option jO} {μ : jM} {t : List Nat} {l : List Int} {q : Nat} (h : ∃ μ', E = rI 0 μ' ∧ fTs μ' μ ∧ StL μ' t q) : RdC E μ t l (Sum.inl q) := ⟨fun q' e => (by cases e; exact h), fun z e => by cases e⟩
theorem RdC_r {E : Option jO} {μ : jM} {t : List Nat} {l : List Int} {z : List Int × Nat} (h : ∃ μ', E = rI 1 μ' ∧ fTs μ' μ ∧ StC μ' t (l ++ z.1) z.2) : RdC E μ t l (Sum.inr z) := ⟨fun q' e => (by cases e), fun z e => (by cases e; exact h)⟩
theorem RdC_t {E : Option jO} {μ μ1 : jM} {t : List Nat} {l : List Int} {x : Rz} (f : fTs μ1 μ) (h : RdC E μ1 t l x) : RdC E μ t l x := ⟨fun q e => by
  obtain ⟨μ', a, b, c⟩ := h.1 q e
  exact ⟨μ', a, fTs_t f b, c⟩, fun z e => by
  obtain ⟨μ', a, b, c⟩ := h.2 z e
  exact ⟨μ', a, fTs_t f b, c⟩⟩
/-- a method that reads so -/
def RdM (call : jM → Option jO) (t : List Nat) (F : Nat → Rz) : Prop := ∀ (p : Nat) (l : List Int) (μ : jM), StC μ t l p → RdC (call μ) μ t l (F p)
theorem c_X9_readThing (d n a : Nat) {t : List Nat} {PE : Nat → Rz} (hP : okR 40 PE) (ha : a + n = 4) (hE : ∀ d, 0 < n → RdM (fun μ => CL (d + 8 * n) 124 [jR 12, jR 1, jI ((a + 1 : Nat) : Int)] μ) t PE) : RdM (fun μ => CL (d + 8 * n + 4) 128 [jR 12, jR 1, jI a] μ) t (thg (tcb t 40) PE n) := by
  intro p l μ h
  have h' := h
  obtain ⟨a1, a2, a3, a4, a5, a6⟩ := h
  show RdC (CL (d + 8 * n + 4) 128 [jR 12, jR 1, jI a] μ) μ t l _
  rw [e_X9_readThing, a2, c_X10_atB _ a1, bI_r, a2]
  unfold thg
  have no : RdC (rI 0 μ) μ t l (Sum.inl p) := RdC_l ⟨μ, rfl, fTs_r μ, StC_L h'⟩
  by_cases h40 : tcb t 40 p = 40
  · have l1 := tcb_l (t := t) (B := 40) (i := p) (by rw [h40]; decide)
    rw [if_pos h40, if_pos h40]
    by_cases hn : 0 < n
    · have hS : StC (jup μ 12 6 ((p + 1 : Nat) : Int)) t l (p + 1) := StC_6 h' (by omega) (by omega)
      have hr := hE (d + 2) hn (p + 1) l _ hS
      have hok := hP (p + 1) (by omega)
      rw [show d + 2 + 8 * n = d + 8 * n + 2 by omega] at hr
      rw [if_pos (by omega), if_pos hn, e_X9_readBracket, a2, w_s p (by omega), w_s a (by omega)]
      cases hx : PE (p + 1) with
      | inl q =>
        obtain ⟨μ1, e, f, s⟩ := hr.1 q hx
        have e : CL (d + 8 * n + 2) 124 [jR 12, jR 1, jI ((a + 1 : Nat) : Int)] (jup μ 12 6 ((p + 1 : Nat) : Int)) = rI 0 μ1 := e
        rw [e, bI_r, if_pos rfl, gd_t (by omega), bI_r, if_pos rfl, gd_t (by omega)]
        exact RdC_l ⟨μ1, rfl, fTs_t (fTs_6 μ _) f, s⟩
      | inr z =>
        obtain ⟨μ1, e, f, s⟩ := hr.2 z hx
        obtain ⟨k1, k2, k3, k4⟩ := hok.2 z hx
        have e : CL (d + 8 * n + 2) 124 [jR 12, jR 1, jI ((a + 1 : Nat) : Int)] (jup μ 12 6 ((p + 1 : Nat) : Int)) = rI 1 μ1 := e
        rw [e, bI_r, if_neg (by decide), s.2.1, c_X10_atB _ s.1, bI_r, s.2.1]
        show RdC _ μ t l (if tcb t 40 z.2 = 41 then Sum.inr (z.1, z.2 + 1) else Sum.inl z.2)
        by_cases h41 : tcb t 40 z.2 = 41
        · have l2 := tcb_l (t := t) (B := 40) (i := z.2) (by rw [h41]; decide)
          rw [if_pos h41, if_pos h41, gd_t (by omega), bI_r, if_neg (by decide), gd_t (by omega), w_s _ (by omega)]
          exact RdC_r ⟨_, rfl, fTs_t (fTs_6 μ _) (fTs_t f (fTs_6 μ1 _)), StC_6 s (by omega) (by omega)⟩
        · rw [if_neg h41, if_neg h41, gd_t (by omega), bI_r, if_pos rfl, gd_t (by omega)]
          exact RdC_l ⟨_, rfl, fTs_t (fTs_6 μ _) f, StC_L s⟩
    · rw [if_neg (by omega), if_neg hn, gd_t (by omega)]
      exact no
  · rw [if_neg h40, if_neg h40, c_X10_hasDigit _ a1, bI_r]
    cases hd : isd (tcb t 40 p) with
    | true =>
      rw [z_t, if_pos rfl, e_X9_readNumber]
      obtain ⟨μ', e, f, s⟩ := c_X9_readNumber_1 (d + 8 * n) 3 0 0 p μ rfl h' (by decide) (by decide) (fun _ => hd) (fun z => by omega)
      have e : EV (d + 8 * n + 2) T_X9_readNumber 1 [some (jR 12), some (jR 1), some (jI 0), some (jI 0)] [] μ = rV μ' := e
      rw [e, bV_r, gd_t (by omega)]
      exact RdC_r ⟨μ', rfl, f, s⟩
    | false =>
      rw [z_f, if_neg (show ¬ (false = true) by decide), c_X9_isQuality, bI_r]
      cases hq : isq (tcb t 40 p) with
      | true =>
        have h1 := isq_i.mp hq
        have l1 := tcb_l (t := t) (B := 40) (i := p) (by omega)
        obtain ⟨μ', e, f, g1, g2, g3⟩ := c_X9_emit0 (d + 8 * n + 2) a3 (by omega) a6 (1000 + tcb t 40 p)
        have e : CL (d + 8 * n + 3) 132 [jR 12, jI (1000 + tcb t 40 p)] μ = rV μ' := e
        rw [z_t, if_pos rfl, w_id (x := 1000 + tcb t 40 p) (by omega) (by omega), e, bV_r, gd_t (by omega), g1, a2, w_s p (by omega)]
        refine RdC_r ⟨_, rfl, fTs_t f (fTs_6 μ' _), TC_cg (fTs_TC f a1) (jup_ne (by decide)) (jup_ne (by decide)), jup_r _ _ _ _, (jup_m (by decide)).trans g2, ?_, by show p + 1 ≤ 40; omega, fun i hi => (jup_nf (by decide)).trans (g3 i hi)⟩
        rw [List.length_append]
        show l.length + 1 ≤ p + 1
        omega
      | false =>
        rw [z_f, if_neg (show ¬ (false = true) by decide), gd_t (by omega)]
        exact no
def bx (b c : Bool) : Bool := if b then !c else c
theorem c_X9_readFactor (d n a : Nat) {t : List Nat} {PE : Nat → Rz} (hP : okR 40 PE) (hT : RdM (fun μ => CL (d + 8 * n + 4) 128 [jR 12, jR 1, jI a] μ) t (thg (tcb t 40) PE n)) : RdM (fun μ => CL (d + 8 * n + 5) 127 [jR 12, jR 1, jI a] μ) t (fct (tcb t 40) PE n) := by
  -- behind the minus signs
  have last : ∀ (b : Bool) (p : Nat) (l : List Int) (μ : jM), StC μ t l p → (b = true → l.length < p) → RdC (bI (CL (d + 8 * n + 4) 128 [jR 12, jR 1, jI a] μ) fun x4 μ4 => if x4 = 0 then gd ((0 : Int) = 0 ∨ (0 : Int) = 1) (rI 0 μ4) else if (if b then (1 : Int) else 0) = 0 then gd ((1 : Int) = 0 ∨ (1 : Int) = 1) (rI 1 μ4) else bV (CL (d + 8 * n + 4) 132 [jR 12, jI 1126] μ4) fun μ5 => gd ((1 : Int) = 0 ∨ (1 : Int) = 1) (rI 1 μ5)) μ t l (match thg (tcb t 40) PE n p with
      | Sum.inl q => Sum.inl q
      | Sum.inr z => Sum.inr (ngt z.1 b, z.2)) := by
    intro b p l μ h hb
    have hr := hT p l μ h
    have hok := thg_ok (qc_o t) hP n p h.2.2.2.2.1
    cases hx : thg (tcb t 40) PE n p with
    | inl q =>
      obtain ⟨μ1, e, f, s⟩ := hr.1 q hx
      have e : CL (d + 8 * n + 4) 128 [jR 12, jR 1, jI a] μ = rI 0 μ1 := e
      rw [e, bI_r, if_pos rfl, gd_t (by omega)]
      exact RdC_l ⟨μ1, rfl, f, s⟩
    | inr z =>
      obtain ⟨μ1, e, f, s⟩ := hr.2 z hx
      obtain ⟨k1, k2, k3, k4⟩ := hok.2 z hx
      have e : CL (d + 8 * n + 4) 128 [jR 12, jR 1, jI a] μ = rI 1 μ1 := e
      rw [e, bI_r, if_neg (by decide)]
      have hlen : (l ++ z.1).length = l.length + z.1.length := List.length_append
      have hle := h.2.2.2.1
      cases b with
      | false =>
        rw [z_f, gd_t (by omega)]
        exact RdC_r ⟨μ1, rfl, f, s⟩
      | true =>
        have hlt := hb rfl
        obtain ⟨μ2, e2, f2, s2⟩ := c_X9_emit (d + 8 * n + 3) s (by omega) (by omega) 1126
        have e2 : CL (d + 8 * n + 4) 132 [jR 12, jI 1126] μ1 = rV μ2 := e2
        rw [z_t, e2, bV_r, gd_t (by omega)]
        refine RdC_r ⟨μ2, rfl, fTs_t f f2, ?_⟩
        show StC μ2 t (l ++ (z.1 ++ [1126])) z.2
        rw [← List.append_assoc]
        exact s2
  have loop : ∀ (r k p : Nat) (b : Bool) (l : List Int) (μ : jM), p + r = 40 → k ≤ p → StC μ t l p → (b = true → l.length < p) → RdC (EV (d + 8 * n + 4) T_X9_readFactor 1 [some (jR 12), some (jR 1), some (jI a), some (jI (if b then 1 else 0)), some (jI k)] [] μ) μ t l (match fcR (tcb t 40) PE n r p with
      | Sum.inl q => Sum.inl q
      | Sum.inr z => Sum.inr (ngt z.1 (bx b z.2.2), z.2.1)) := by
    intro r
    induction r with
    | zero =>
      intro k p b l μ hp hk h hb
      have hl := last b p l μ h hb
      have hc : tcb t 40 p = -1 := qc_o t p (by omega)
      have key : RdC (EV (d + 8 * n + 4) T_X9_readFactor 1 [some (jR 12), some (jR 1), some (jI a), some (jI (if b then 1 else 0)), some (jI k)] [] μ) μ t l (match thg (tcb t 40) PE n p with
          | Sum.inl q => Sum.inl q
          | Sum.inr z => Sum.inr (ngt z.1 b, z.2)) := by
        rw [e_X9_readFactor_1, h.2.1, c_X10_atB _ h.1, bI_r, hc, if_neg (show ¬ (-1 : Int) = 45 by decide)]
        by_cases hk40 : (k : Int) < 40
        · rw [if_pos hk40]
          exact hl
        · rw [if_neg hk40]
          exact hl
      unfold fcR
      cases hx : thg (tcb t 40) PE n p with
      | inl q =>
        rw [hx] at key
        exact key
      | inr z =>
        rw [hx] at key
        have e : bx b false = b := by cases b <;> rfl
        show RdC _ μ t l (Sum.inr (ngt z.1 (bx b false), z.2))
        rw [e]
        exact key
    | succ r ih =>
      intro k p b l μ hp hk h hb
      rw [e_X9_readFactor_1, if_pos (by omega), h.2.1, c_X10_atB _ h.1, bI_r, h.2.1]
      unfold fcR
      by_cases h45 : tcb t 40 p = 45
      · have hS : StC (jup μ 12 6 ((p + 1 : Nat) : Int)) t l (p + 1) := StC_6 h (by omega) (by omega)
        have hle := h.2.2.2.1
        have hi := ih (k + 1) (p + 1) (!b) l _ (by omega) (by omega) hS (fun _ => by omega)
        rw [if_pos h45, if_pos h45, w_s p (by omega), w_s k (by omega)]
        have fold : ∀ (o : Option jO), o = (if (if b then (1 : Int) else 0) = 0 then EV (d + 8 * n + 4) T_X9_readFactor 1 [some (jR 12), some (jR 1), some (jI a), some (jI 1), some (jI ((k + 1 : Nat) : Int))] [] (jup μ 12 6 ((p + 1 : Nat) : Int)) else EV (d + 8 * n + 4) T_X9_readFactor 1 [some (jR 12), some (jR 1), some (jI a), some (jI 0), some (jI ((k + 1 : Nat) : Int))] [] (jup μ 12 6 ((p + 1 : Nat) : Int))) → o = EV (d + 8 * n + 4) T_X9_readFactor 1 [some (jR 12), some (jR 1), some (jI a), some (jI (if (!b) = true then 1 else 0)), some (jI ((k + 1 : Nat) : Int))] [] (jup μ 12 6 ((p + 1 : Nat) : Int)) := fun o ho => by
          rw [ho]
          cases b <;> rfl
        rw [fold _ rfl]
        refine RdC_t (fTs_6 μ ((p + 1 : Nat) : Int)) ?_
        cases hx : fcR (tcb t 40) PE n r (p + 1) with
        | inl q =>
          rw [hx] at hi
          exact hi
        | inr z =>
          rw [hx] at hi
          have e : bx b (!z.2.2) = bx (!b) z.2.2 := by cases b <;> cases z.2.2 <;> rfl
          show RdC _ _ t l (Sum.inr (ngt z.1 (bx b (!z.2.2)), z.2.1))
          rw [e]
          exact hi
      · rw [if_neg h45, if_neg h45]
        have hl := last b p l μ h hb
        cases hx : thg (tcb t 40) PE n p with
        | inl q =>
          rw [hx] at hl
          exact hl
        | inr z =>
          rw [hx] at hl
          have e : bx b false = b := by cases b <;> rfl
          show RdC _ μ t l (Sum.inr (ngt z.1 (bx b false), z.2))
          rw [e]
          exact hl
  intro p l μ h
  have hp40 := h.2.2.2.2.1
  have hl := loop (40 - p) 0 p false l μ (by omega) (by omega) h (fun z => by cases z)
  show RdC (CL (d + 8 * n + 5) 127 [jR 12, jR 1, jI a] μ) μ t l _
  rw [e_X9_readFactor]
  unfold fct
  exact hl
theorem c_X9_readProduct (d n a : Nat) {t : List Nat} {F : Nat → Rz} (hF : okR 40 F) (hT : RdM (fun μ => CL (d + 8 * n + 5) 127 [jR 12, jR 1, jI a] μ) t F) : RdM (fun μ => CL (d + 8 * n + 6) 126 [jR 12, jR 1, jI a] μ) t (opP (tcb t 40) F 42 47) := by
  have lost : ∀ (k : Nat) (s : Int) (μ : jM), EV (d + 8 * n + 5) T_X9_readProduct 1 [some (jR 12), some (jR 1), some (jI a), some (jI 0), some (jI s), some (jI k)] [] μ = rI 0 μ := fun k s μ => by
    rw [e_X9_readProduct_1]
    by_cases hk : (k : Int) < 40
    · rw [if_pos hk, if_pos rfl, gd_t (by omega)]
    · rw [if_neg hk, gd_t (by omega)]
  have loop : ∀ (r k p : Nat) (l0 l : List Int) (μ : jM), k + r = 40 → StC μ t (l0 ++ l) p → RdC (EV (d + 8 * n + 5) T_X9_readProduct 1 [some (jR 12), some (jR 1), some (jI a), some (jI 1), some (jI (tcb t 40 p)), some (jI k)] [] μ) μ t l0 (lpP (tcb t 40) F 42 47 r l p) := by
    intro r
    induction r with
    | zero =>
      intro k p l0 l μ hk h
      rw [e_X9_readProduct_1, if_neg (by omega), gd_t (by omega)]
      exact RdC_r ⟨μ, rfl, fTs_r μ, h⟩
    | succ r ih =>
      intro k p l0 l μ hk h
      have hcb := tcb_b h.1.2.1 40 p
      have hle := h.2.2.2.1
      rw [e_X9_readProduct_1, if_pos (by omega), if_neg (by decide)]
      unfold lpP
      have go : tcb t 40 p = 42 ∨ tcb t 40 p = 47 → RdC (bI (CL (d + 8 * n + 5) 127 [jR 12, jR 1, jI a] (jup μ 12 6 (w32 ((μ 12 6) + 1)))) fun x1 μ1 => bV (CL (d + 8 * n + 5) 132 [jR 12, jI (w32 (1000 + tcb t 40 p))] μ1) fun μ2 => bI (CL (d + 8 * n + 5) 143 [jR 1, jI (μ2 12 6), jI 40] μ2) fun x3 μ3 => EV (d + 8 * n + 5) T_X9_readProduct 1 [some (jR 12), some (jR 1), some (jI a), some (jI x1), some (jI x3), some (jI (w32 ((k : Int) + 1)))] [] μ3) μ t l0 (match F (p + 1) with
          | Sum.inl q => Sum.inl q
          | Sum.inr z => lpP (tcb t 40) F 42 47 r (l ++ z.1 ++ [1000 + tcb t 40 p]) z.2) := fun ho => by
        have l1 := tcb_l (t := t) (B := 40) (i := p) (by rcases ho with z | z <;> rw [show tcb t 40 p = _ from z] <;> decide)
        have hS : StC (jup μ 12 6 ((p + 1 : Nat) : Int)) t (l0 ++ l) (p + 1) := StC_6 h (by omega) (by omega)
        have hr := hT (p + 1) (l0 ++ l) _ hS
        have hok := hF (p + 1) (by omega)
        rw [h.2.1, w_s p (by omega), w_s k (by omega), w_id (x := 1000 + tcb t 40 p) (by omega) (by omega)]
        cases hx : F (p + 1) with
        | inl q =>
          obtain ⟨μ1, e, f, s⟩ := hr.1 q hx
          obtain ⟨μ2, e2, f2, s2⟩ := c_X9_emitL (d + 8 * n + 4) s (1000 + tcb t 40 p)
          have e : CL (d + 8 * n + 5) 127 [jR 12, jR 1, jI a] (jup μ 12 6 ((p + 1 : Nat) : Int)) = rI 0 μ1 := e
          have e2 : CL (d + 8 * n + 5) 132 [jR 12, jI (1000 + tcb t 40 p)] μ1 = rV μ2 := e2
          rw [e, bI_r, e2, bV_r, s2.2.1, c_X10_atB _ s2.1, bI_r, lost (k + 1) _ μ2]
          exact RdC_l ⟨μ2, rfl, fTs_t (fTs_6 μ _) (fTs_t f f2), s2⟩
        | inr z =>
          obtain ⟨μ1, e, f, s⟩ := hr.2 z hx
          obtain ⟨k1, k2, k3, k4⟩ := hok.2 z hx
          have hlen : (l0 ++ l ++ z.1).length = (l0 ++ l).length + z.1.length := List.length_append
          obtain ⟨μ2, e2, f2, s2⟩ := c_X9_emit (d + 8 * n + 4) s (by omega) (by omega) (1000 + tcb t 40 p)
          have e : CL (d + 8 * n + 5) 127 [jR 12, jR 1, jI a] (jup μ 12 6 ((p + 1 : Nat) : Int)) = rI 1 μ1 := e
          have e2 : CL (d + 8 * n + 5) 132 [jR 12, jI (1000 + tcb t 40 p)] μ1 = rV μ2 := e2
          rw [e, bI_r, e2, bV_r, s2.2.1, c_X10_atB _ s2.1, bI_r]
          have el : l0 ++ l ++ z.1 ++ [1000 + tcb t 40 p] = l0 ++ (l ++ z.1 ++ [1000 + tcb t 40 p]) := by
            simp only [List.append_assoc]
          rw [el] at s2
          exact RdC_t (fTs_t (fTs_6 μ _) (fTs_t f f2)) (ih (k + 1) z.2 l0 (l ++ z.1 ++ [1000 + tcb t 40 p]) μ2 (by omega) s2)
      by_cases h1 : tcb t 40 p = 42
      · rw [if_pos h1, if_pos (show tcb t 40 p = 42 ∨ tcb t 40 p = 47 from Or.inl h1)]
        exact go (Or.inl h1)
      · rw [if_neg h1]
        by_cases h2 : tcb t 40 p = 47
        · rw [if_pos h2, if_pos (show tcb t 40 p = 42 ∨ tcb t 40 p = 47 from Or.inr h2)]
          exact go (Or.inr h2)
        · rw [if_neg h2, if_neg (show ¬ (tcb t 40 p = 42 ∨ tcb t 40 p = 47) from fun z => by rcases z with z | z; exact h1 z; exact h2 z), gd_t (by omega)]
          exact RdC_r ⟨μ, rfl, fTs_r μ, h⟩
  intro p l μ h
  have hr := hT p l μ h
  show RdC (CL (d + 8 * n + 6) 126 [jR 12, jR 1, jI a] μ) μ t l _
  rw [e_X9_readProduct]
  unfold opP
  cases hx : F p with
  | inl q =>
    obtain ⟨μ1, e, f, s⟩ := hr.1 q hx
    have e : CL (d + 8 * n + 5) 127 [jR 12, jR 1, jI a] μ = rI 0 μ1 := e
    rw [e, bI_r, s.2.1, c_X10_atB _ s.1, bI_r]
    have := lost 0 (tcb t 40 q) μ1
    exact RdC_l ⟨μ1, this, f, s⟩
  | inr z =>
    obtain ⟨μ1, e, f, s⟩ := hr.2 z hx
    have e : CL (d + 8 * n + 5) 127 [jR 12, jR 1, jI a] μ = rI 1 μ1 := e
    rw [e, bI_r, s.2.1, c_X10_atB _ s.1, bI_r]
    exact RdC_t f (loop 40 0 z.2 l z.1 μ1 rfl s)
theorem c_X9_readSum (d n a : Nat) {t : List Nat} {F : Nat → Rz} (hF : okR 40 F) (hT : RdM (fun μ => CL (d + 8 * n + 6) 126 [jR 12, jR 1, jI a] μ) t F) : RdM (fun μ => CL (d + 8 * n + 7) 125 [jR 12, jR 1, jI a] μ) t (opP (tcb t 40) F 43 45) := by
  have lost : ∀ (k : Nat) (s : Int) (μ : jM), EV (d + 8 * n + 6) T_X9_readSum 1 [some (jR 12), some (jR 1), some (jI a), some (jI 0), some (jI s), some (jI k)] [] μ = rI 0 μ := fun k s μ => by
    rw [e_X9_readSum_1]
    by_cases hk : (k : Int) < 40
    · rw [if_pos hk, if_pos rfl, gd_t (by omega)]
    · rw [if_neg hk, gd_t (by omega)]
  have loop : ∀ (r k p : Nat) (l0 l : List Int) (μ : jM), k + r = 40 → StC μ t (l0 ++ l) p → RdC (EV (d + 8 * n + 6) T_X9_readSum 1 [some (jR 12), some (jR 1), some (jI a), some (jI 1), some (jI (tcb t 40 p)), some (jI k)] [] μ) μ t l0 (lpP (tcb t 40) F 43 45 r l p) := by
    intro r
    induction r with
    | zero =>
      intro k p l0 l μ hk h
      rw [e_X9_readSum_1, if_neg (by omega), gd_t (by omega)]
      exact RdC_r ⟨μ, rfl, fTs_r μ, h⟩
    | succ r ih =>
      intro k p l0 l μ hk h
      have hcb := tcb_b h.1.2.1 40 p
      have hle := h.2.2.2.1
      rw [e_X9_readSum_1, if_pos (by omega), if_neg (by decide)]
      unfold lpP
      have go : tcb t 40 p = 43 ∨ tcb t 40 p = 45 → RdC (bI (CL (d + 8 * n + 6) 126 [jR 12, jR 1, jI a] (jup μ 12 6 (w32 ((μ 12 6) + 1)))) fun x1 μ1 => bV (CL (d + 8 * n + 6) 132 [jR 12, jI (w32 (1000 + tcb t 40 p))] μ1) fun μ2 => bI (CL (d + 8 * n + 6) 143 [jR 1, jI (μ2 12 6), jI 40] μ2) fun x3 μ3 => EV (d + 8 * n + 6) T_X9_readSum 1 [some (jR 12), some (jR 1), some (jI a), some (jI x1), some (jI x3), some (jI (w32 ((k : Int) + 1)))] [] μ3) μ t l0 (match F (p + 1) with
          | Sum.inl q => Sum.inl q
          | Sum.inr z => lpP (tcb t 40) F 43 45 r (l ++ z.1 ++ [1000 + tcb t 40 p]) z.2) := fun ho => by
        have l1 := tcb_l (t := t) (B := 40) (i := p) (by rcases ho with z | z <;> rw [show tcb t 40 p = _ from z] <;> decide)
        have hS : StC (jup μ 12 6 ((p + 1 : Nat) : Int)) t (l0 ++ l) (p + 1) := StC_6 h (by omega) (by omega)
        have hr := hT (p + 1) (l0 ++ l) _ hS
        have hok := hF (p + 1) (by omega)
        rw [h.2.1, w_s p (by omega), w_s k (by omega), w_id (x := 1000 + tcb t 40 p) (by omega) (by omega)]
        cases hx : F (p + 1) with
        | inl q =>
          obtain ⟨μ1, e, f, s⟩ := hr.1 q hx
          obtain ⟨μ2, e2, f2, s2⟩ := c_X9_emitL (d + 8 * n + 5) s (1000 + tcb t 40 p)
          have e : CL (d + 8 * n + 6) 126 [jR 12, jR 1, jI a] (jup μ 12 6 ((p + 1 : Nat) : Int)) = rI 0 μ1 := e
          have e2 : CL (d + 8 * n + 6) 132 [jR 12, jI (1000 + tcb t 40 p)] μ1 = rV μ2 := e2
          rw [e, bI_r, e2, bV_r, s2.2.1, c_X10_atB _ s2.1, bI_r, lost (k + 1) _ μ2]
          exact RdC_l ⟨μ2, rfl, fTs_t (fTs_6 μ _) (fTs_t f f2), s2⟩
        | inr z =>
          obtain ⟨μ1, e, f, s⟩ := hr.2 z hx
          obtain ⟨k1, k2, k3, k4⟩ := hok.2 z hx
          have hlen : (l0 ++ l ++ z.1).length = (l0 ++ l).length + z.1.length := List.length_append
          obtain ⟨μ2, e2, f2, s2⟩ := c_X9_emit (d + 8 * n + 5) s (by omega) (by omega) (1000 + tcb t 40 p)
          have e : CL (d + 8 * n + 6) 126 [jR 12, jR 1, jI a] (jup μ 12 6 ((p + 1 : Nat) : Int)) = rI 1 μ1 := e
          have e2 : CL (d + 8 * n + 6) 132 [jR 12, jI (1000 + tcb t 40 p)] μ1 = rV μ2 := e2
          rw [e, bI_r, e2, bV_r, s2.2.1, c_X10_atB _ s2.1, bI_r]
          have el : l0 ++ l ++ z.1 ++ [1000 + tcb t 40 p] = l0 ++ (l ++ z.1 ++ [1000 + tcb t 40 p]) := by
            simp only [List.append_assoc]
          rw [el] at s2
          exact RdC_t (fTs_t (fTs_6 μ _) (fTs_t f f2)) (ih (k + 1) z.2 l0 (l ++ z.1 ++ [1000 + tcb t 40 p]) μ2 (by omega) s2)
      by_cases h1 : tcb t 40 p = 43
      · rw [if_pos h1, if_pos (show tcb t 40 p = 43 ∨ tcb t 40 p = 45 from Or.inl h1)]
        exact go (Or.inl h1)
      · rw [if_neg h1]
        by_cases h2 : tcb t 40 p = 45
        · rw [if_pos h2, if_pos (show tcb t 40 p = 43 ∨ tcb t 40 p = 45 from Or.inr h2)]
          exact go (Or.inr h2)
        · rw [if_neg h2, if_neg (show ¬ (tcb t 40 p = 43 ∨ tcb t 40 p = 45) from fun z => by rcases z with z | z; exact h1 z; exact h2 z), gd_t (by omega)]
          exact RdC_r ⟨μ, rfl, fTs_r μ, h⟩
  intro p l μ h
  have hr := hT p l μ h
  show RdC (CL (d + 8 * n + 7) 125 [jR 12, jR 1, jI a] μ) μ t l _
  rw [e_X9_readSum]
  unfold opP
  cases hx : F p with
  | inl q =>
    obtain ⟨μ1, e, f, s⟩ := hr.1 q hx
    have e : CL (d + 8 * n + 6) 126 [jR 12, jR 1, jI a] μ = rI 0 μ1 := e
    rw [e, bI_r, s.2.1, c_X10_atB _ s.1, bI_r]
    have := lost 0 (tcb t 40 q) μ1
    exact RdC_l ⟨μ1, this, f, s⟩
  | inr z =>
    obtain ⟨μ1, e, f, s⟩ := hr.2 z hx
    have e : CL (d + 8 * n + 6) 126 [jR 12, jR 1, jI a] μ = rI 1 μ1 := e
    rw [e, bI_r, s.2.1, c_X10_atB _ s.1, bI_r]
    exact RdC_t f (loop 40 0 z.2 l z.1 μ1 rfl s)
theorem c_X9_readExpression (d n a : Nat) {t : List Nat} {S : Nat → Rz} (hF : okR 40 S) (hT : RdM (fun μ => CL (d + 8 * n + 7) 125 [jR 12, jR 1, jI a] μ) t S) : RdM (fun μ => CL (d + 8 * n + 8) 124 [jR 12, jR 1, jI a] μ) t (exE (tcb t 40) S) := by
  intro p l μ h
  have hr := hT p l μ h
  have hokp := hF p h.2.2.2.2.1
  have hle := h.2.2.2.1
  show RdC (CL (d + 8 * n + 8) 124 [jR 12, jR 1, jI a] μ) μ t l _
  rw [e_X9_readExpression]
  unfold exE
  cases hx : S p with
  | inl q =>
    obtain ⟨μ1, e, f, s⟩ := hr.1 q hx
    have e : CL (d + 8 * n + 7) 125 [jR 12, jR 1, jI a] μ = rI 0 μ1 := e
    rw [e, bI_r, if_pos rfl, gd_t (by omega)]
    exact RdC_l ⟨μ1, rfl, f, s⟩
  | inr z =>
    obtain ⟨μ1, e, f, s⟩ := hr.2 z hx
    obtain ⟨k1, k2, k3, k4⟩ := hokp.2 z hx
    have e : CL (d + 8 * n + 7) 125 [jR 12, jR 1, jI a] μ = rI 1 μ1 := e
    have hcb := tcb_b s.1.2.1 40 z.2
    have hlen0 : (l ++ z.1).length = l.length + z.1.length := List.length_append
    rw [e, bI_r, if_neg (by decide), s.2.1, c_X10_atB _ s.1, bI_r]
    have go : tcb t 40 z.2 = 60 ∨ tcb t 40 z.2 = 62 ∨ tcb t 40 z.2 = 61 → RdC (bI (CL (d + 8 * n + 7) 125 [jR 12, jR 1, jI a] (jup μ1 12 6 (w32 ((μ1 12 6) + 1)))) fun x3 μ3 => if x3 = 0 then gd ((0 : Int) = 0 ∨ (0 : Int) = 1) (rI 0 μ3) else bV (CL (d + 8 * n + 7) 132 [jR 12, jI (w32 (1000 + tcb t 40 z.2))] μ3) fun μ4 => gd ((1 : Int) = 0 ∨ (1 : Int) = 1) (rI 1 μ4)) μ t l (match S (z.2 + 1) with
        | Sum.inl q => Sum.inl q
        | Sum.inr y => Sum.inr (z.1 ++ y.1 ++ [1000 + tcb t 40 z.2], y.2)) := fun ho => by
      have l1 := tcb_l (t := t) (B := 40) (i := z.2) (by rcases ho with w | w | w <;> rw [show tcb t 40 z.2 = _ from w] <;> decide)
      have hS : StC (jup μ1 12 6 ((z.2 + 1 : Nat) : Int)) t (l ++ z.1) (z.2 + 1) := StC_6 s (by omega) (by omega)
      have hr2 := hT (z.2 + 1) (l ++ z.1) _ hS
      have hok := hF (z.2 + 1) (by omega)
      rw [s.2.1, w_s z.2 (by omega), w_id (x := 1000 + tcb t 40 z.2) (by omega) (by omega)]
      cases hy : S (z.2 + 1) with
      | inl q =>
        obtain ⟨μ2, e2, f2, s2⟩ := hr2.1 q hy
        have e2 : CL (d + 8 * n + 7) 125 [jR 12, jR 1, jI a] (jup μ1 12 6 ((z.2 + 1 : Nat) : Int)) = rI 0 μ2 := e2
        rw [e2, bI_r, if_pos rfl, gd_t (by omega)]
        exact RdC_l ⟨μ2, rfl, fTs_t f (fTs_t (fTs_6 μ1 _) f2), s2⟩
      | inr y =>
        obtain ⟨μ2, e2, f2, s2⟩ := hr2.2 y hy
        obtain ⟨j1, j2, j3, j4⟩ := hok.2 y hy
        have hlen : (l ++ z.1 ++ y.1).length = (l ++ z.1).length + y.1.length := List.length_append
        obtain ⟨μ3, e3, f3, s3⟩ := c_X9_emit (d + 8 * n + 6) s2 (by omega) (by omega) (1000 + tcb t 40 z.2)
        have e2 : CL (d + 8 * n + 7) 125 [jR 12, jR 1, jI a] (jup μ1 12 6 ((z.2 + 1 : Nat) : Int)) = rI 1 μ2 := e2
        have e3 : CL (d + 8 * n + 7) 132 [jR 12, jI (1000 + tcb t 40 z.2)] μ2 = rV μ3 := e3
        have el : l ++ z.1 ++ y.1 ++ [1000 + tcb t 40 z.2] = l ++ (z.1 ++ y.1 ++ [1000 + tcb t 40 z.2]) := by
          simp only [List.append_assoc]
        rw [el] at s3
        rw [e2, bI_r, if_neg (by decide), e3, bV_r, gd_t (by omega)]
        exact RdC_r ⟨μ3, rfl, fTs_t f (fTs_t (fTs_6 μ1 _) (fTs_t f2 f3)), s3⟩
    show RdC _ μ t l (if tcb t 40 z.2 = 60 ∨ tcb t 40 z.2 = 62 ∨ tcb t 40 z.2 = 61 then _ else _)
    by_cases h1 : tcb t 40 z.2 = 60
    · rw [if_pos h1, if_pos (show tcb t 40 z.2 = 60 ∨ tcb t 40 z.2 = 62 ∨ tcb t 40 z.2 = 61 from Or.inl h1)]
      exact go (Or.inl h1)
    · rw [if_neg h1]
      by_cases h2 : tcb t 40 z.2 = 62
      · rw [if_pos h2, if_pos (show tcb t 40 z.2 = 60 ∨ tcb t 40 z.2 = 62 ∨ tcb t 40 z.2 = 61 from Or.inr (Or.inl h2))]
        exact go (Or.inr (Or.inl h2))
      · rw [if_neg h2]
        by_cases h3 : tcb t 40 z.2 = 61
        · rw [if_pos h3, if_pos (show tcb t 40 z.2 = 60 ∨ tcb t 40 z.2 = 62 ∨ tcb t 40 z.2 = 61 from Or.inr (Or.inr h3))]
          exact go (Or.inr (Or.inr h3))
        · rw [if_neg h3, if_neg (show ¬ (tcb t 40 z.2 = 60 ∨ tcb t 40 z.2 = 62 ∨ tcb t 40 z.2 = 61) from fun w => by rcases w with w | w | w; exact h1 w; exact h2 w; exact h3 w), gd_t (by omega)]
          exact RdC_r ⟨μ1, rfl, f, s⟩
theorem c_X9_lev (n a : Nat) {t : List Nat} {PE : Nat → Rz} (hP : okR 40 PE) (ha : a + n = 4) (hE : ∀ d, 0 < n → RdM (fun μ => CL (d + 8 * n) 124 [jR 12, jR 1, jI ((a + 1 : Nat) : Int)] μ) t PE) (d : Nat) : RdM (fun μ => CL (d + 8 * n + 8) 124 [jR 12, jR 1, jI a] μ) t (pExp (tcb t 40) PE n) :=
  c_X9_readExpression d n a (pSum_ok (qc_o t) hP n) (c_X9_readSum d n a (pPro_ok (qc_o t) hP n) (c_X9_readProduct d n a (fct_ok (qc_o t) hP n) (c_X9_readFactor d n a hP (c_X9_readThing d n a hP ha hE))))
theorem c_X9_exp {t : List Nat} : ∀ (n a : Nat), a + n = 4 → ∀ d, RdM (fun μ => CL (d + 8 * n + 8) 124 [jR 12, jR 1, jI a] μ) t (pEx (tcb t 40) n)
  | 0, a, ha => fun d => c_X9_lev 0 a ok_no ha (fun _ h => absurd h (by decide)) d
  | n + 1, a, ha => fun d => c_X9_lev (n + 1) a (pEx_ok (qc_o t) n) ha (fun d' _ => c_X9_exp n (a + 1) (by omega) d') d
/-- what THE RULE comes to: the codes -/
def ruP (t : List Nat) : Rz := if t.length = 0 then Sum.inr ([], 0) else pEx (tcb t 40) 4 0
def ruA (t : List Nat) : Int := match ruP t with
  | Sum.inl q => -1 - (q : Int)
  | Sum.inr z => if z.2 < t.length then -1 - (z.2 : Int) else 0
/-- THE RULE as it stands behind a reading -/
def ruT (r t : List Nat) : List Nat := match ruP t with
  | Sum.inl _ => r
  | Sum.inr z => if z.2 < t.length then r else t
def ruC (r : List Nat) : List Int := match ruP r with
  | Sum.inl _ => []
  | Sum.inr z => z.1
/-- a text that is a rule -/
def Rok (r : List Nat) : Prop := r.length ≤ 40 ∧ (∀ c ∈ r, c < 256) ∧ ∃ l, ruP r = Sum.inr (l, r.length)
/-- the class's picture of THE RULE -/
def TaC (μ : jM) (r : List Nat) : Prop := Rok r ∧ μ 12 3 = ((ruC r).length : Int) ∧ ∀ i : Nat, i < (ruC r).length → μ 13 (i : Int) = (ruC r).getD i 0
theorem ruP_ok {t : List Nat} : (∀ q, ruP t = Sum.inl q → q ≤ 40) ∧ ∀ z, ruP t = Sum.inr z → z.2 ≤ 40 ∧ z.1.length ≤ z.2 ∧ (t.length ≠ 0 → 0 < z.1.length) := by
  unfold ruP
  by_cases h : t.length = 0
  · rw [if_pos h]
    refine ⟨fun q hq => (by cases hq), fun z hz => ?_⟩
    cases hz
    exact ⟨by decide, by decide, fun y => absurd h y⟩
  · rw [if_neg h]
    obtain ⟨a, b⟩ := pEx_ok (qc_o t) 4 0 (by decide)
    exact ⟨fun q hq => (a q hq).2, fun z hz => ⟨(b z hz).2.1, (b z hz).2.2.1, fun _ => (b z hz).2.2.2⟩⟩
theorem c_X9_read (d : Nat) {μ : jM} {t r : List Nat} (ht : TC μ t) (hr : TaC μ r) : ∃ μ', CL (d + 41) 123 [jR 12, jR 1] μ = rI (ruA t) μ' ∧ (∀ q, q ≠ 12 → q ≠ 13 → q ≠ 14 → μ' q = μ q) ∧ μ' 12 5 = μ 12 5 ∧ TaC μ' (ruT r t) := by
  obtain ⟨p1, p2⟩ := ruP_ok (t := t)
  let m0 : jM := jup (jup μ 12 6 0) 12 4 0
  have n0 : ∀ q, q ≠ 12 → m0 q = μ q := fun q hq => (jup_ne hq).trans (jup_ne hq)
  have j0 : ∀ j : Int, j ≠ 4 → j ≠ 6 → m0 12 j = μ 12 j := fun j a b => (jup_m a).trans (jup_m b)
  have hS : StC m0 t [] 0 := ⟨TC_cg ht (n0 1 (by decide)) (n0 2 (by decide)), (jup_m (by decide)).trans (jup_r _ _ _ _), jup_r _ _ _ _, Nat.le_refl 0, by decide, fun i hi => absurd hi (Nat.not_lt_zero i)⟩
  -- the codes are taken over
  have take : ∀ (m : jM) (l : List Int), fTs m m0 → m 12 4 = (l.length : Int) → l.length ≤ 40 → (∀ i : Nat, i < l.length → m 14 (i : Int) = l.getD i 0) → Rok t → ruC t = l → ∃ μ', (gd (0 ≤ (40 : Int) ∧ 0 ≤ (0 : Int) ∧ 0 ≤ (0 : Int) ∧ (0 : Int) + 40 ≤ 40 ∧ (0 : Int) + 40 ≤ 40) (rI 0 (jup (jfill m 13 (fun j => if 0 ≤ j ∧ j < 0 + 40 then m 14 (0 + (j - 0)) else m 13 j)) 12 3 ((jfill m 13 (fun j => if 0 ≤ j ∧ j < 0 + 40 then m 14 (0 + (j - 0)) else m 13 j)) 12 4)))) = rI 0 μ' ∧ (∀ q, q ≠ 12 → q ≠ 13 → q ≠ 14 → μ' q = μ q) ∧ μ' 12 5 = μ 12 5 ∧ TaC μ' t := fun m l f h4 hl hi hok hc => by
    have jf : ∀ q, q ≠ 13 → ∀ g : Int → Int, jfill m 13 g q = m q := fun q hq g => by
      funext j
      exact if_neg hq
    have j13 : ∀ (g : Int → Int) (j : Int), jfill m 13 g 13 j = g j := fun g j => if_pos rfl
    rw [gd_t (by omega)]
    refine ⟨_, rfl, fun q a b c => (jup_ne a).trans ((jf q b _).trans ((f.1 q a c).trans (n0 q a))), ?_, hok, ?_, fun i hi2 => ?_⟩
    · rw [jup_m (by decide), jf 12 (by decide), f.2 5 (by decide) (by decide), j0 5 (by decide) (by decide)]
    · rw [jup_r, jf 12 (by decide), h4, hc]
    · rw [hc] at hi2
      rw [jup_ne (by decide), j13, if_pos (by omega), show (0 : Int) + ((i : Int) - 0) = (i : Int) by omega, hi i hi2, hc]
  have frame : ∀ m : jM, fTs m m0 → (∀ q, q ≠ 12 → q ≠ 13 → q ≠ 14 → m q = μ q) ∧ m 12 5 = μ 12 5 ∧ TaC m r := fun m f => ⟨fun q a _ c => (f.1 q a c).trans (n0 q a), (f.2 5 (by decide) (by decide)).trans (j0 5 (by decide) (by decide)), hr.1, ((f.2 3 (by decide) (by decide)).trans (j0 3 (by decide) (by decide))).trans hr.2.1, fun i hi => by rw [f.1 13 (by decide) (by decide), n0 13 (by decide)]; exact hr.2.2 i hi⟩
  rw [e_X9_read, e_X10_length]
  show ∃ μ', (if (0 : Int) < m0 1 1 then _ else _) = _ ∧ _
  rw [show m0 1 1 = (t.length : Int) from hS.1.2.2.1]
  unfold ruA ruT
  by_cases h0 : t.length = 0
  · have e : ruP t = Sum.inr ([], 0) := if_pos h0
    have hok : Rok t := ⟨by omega, ht.2.1, [], by rw [e, h0]⟩
    rw [if_neg (by omega), e]
    show ∃ μ', _ = rI (if 0 < t.length then _ else 0) μ' ∧ _ ∧ _ ∧ TaC μ' (if 0 < t.length then r else t)
    rw [if_neg (by omega), if_neg (by omega)]
    exact take m0 [] (fTs_r m0) hS.2.2.1 (by decide) (fun i hi => absurd hi (Nat.not_lt_zero i)) hok (by unfold ruC; rw [e])
  · have eP : ruP t = pEx (tcb t 40) 4 0 := if_neg h0
    have hx := c_X9_exp (t := t) 4 0 rfl d 0 [] m0 hS
    rw [← eP] at hx
    rw [if_pos (by omega)]
    cases hP : ruP t with
    | inl q =>
      obtain ⟨m, e, f, s⟩ := hx.1 q hP
      have hq := p1 q hP
      have e : CL (d + 40) 124 [jR 12, jR 1, jI 0] m0 = rI 0 m := e
      rw [show CL (d + 40) 124 [jR 12, jR 1, jI 0] (jup (jup μ 12 6 0) 12 4 0) = rI 0 m from e, bI_r, if_pos rfl, s.2.1, w_id (by omega) (by omega)]
      exact ⟨m, rfl, frame m f⟩
    | inr z =>
      obtain ⟨m, e, f, s⟩ := hx.2 z hP
      obtain ⟨z1, z2, -⟩ := p2 z hP
      have e : CL (d + 40) 124 [jR 12, jR 1, jI 0] m0 = rI 1 m := e
      rw [show CL (d + 40) 124 [jR 12, jR 1, jI 0] (jup (jup μ 12 6 0) 12 4 0) = rI 1 m from e, bI_r, if_neg (by decide), e_X10_length, s.1.2.2.1, bI_r, s.2.1]
      show ∃ μ', _ = rI (if z.2 < t.length then -1 - (z.2 : Int) else 0) μ' ∧ _ ∧ _ ∧ TaC μ' (if z.2 < t.length then r else t)
      by_cases hl : z.2 < t.length
      · rw [if_pos (by omega), if_pos hl, if_pos hl, w_id (by omega) (by omega)]
        exact ⟨m, rfl, frame m f⟩
      · have hzl : z.2 = t.length := by
          have := (pEx_ok (N := t.length) (c := tcb t 40) (fun i hi => if_neg (by omega)) 4 0 (by omega)).2 z (by rw [← eP]; exact hP)
          omega
        have hok : Rok t := ⟨by omega, ht.2.1, z.1, by rw [hP, ← hzl]⟩
        rw [if_neg (by omega), if_neg hl, if_neg hl]
        exact take m z.1 f s.2.2.1 (by omega) s.2.2.2.2.2 hok (by unfold ruC; rw [hP])
