/-! ## THE RULE read and reckoned: the reference -/
def fR2 (ν ν0 : jM) : Prop := (∀ q, q ≠ 69 → ν q = ν0 q) ∧ ∀ j : Int, j ≠ 24 → j ≠ 25 → ν 69 j = ν0 69 j
theorem fR2_r (ν : jM) : fR2 ν ν := ⟨fun _ _ => rfl, fun _ _ _ => rfl⟩
theorem fR2_j {ν ν0 : jM} (h : fR2 ν ν0) {i : Int} (hi : i = 24 ∨ i = 25) (v : Int) : fR2 (jup ν 69 i v) ν0 := ⟨fun q a => (jup_ne a).trans (h.1 q a), fun j a b => (jup_m (by omega)).trans (h.2 j a b)⟩
theorem fR2_RB {ν ν0 : jM} (h : fR2 ν ν0) {P : Nat} {t : List Nat} {B : Int} (hb : RB ν0 P t B) : RB ν P t B := RB_cg hb (fun q hq => h.1 q (by omega)) (h.2 21 (by decide) (by decide)) (h.2 22 (by decide) (by decide)) (h.2 23 (by decide) (by decide))
def RdE (ν0 : jM) (P : Nat) (t : List Nat) (e : Int → Int) : Prop := RB ν0 P t 40 ∧ (∀ x, -2147483648 ≤ e x ∧ e x ≤ 2147483647) ∧ ∀ (d : Nat) (ν : jM), fR2 ν ν0 → ∀ (p : Nat) (x : Int), ν 69 24 = (p : Int) → p ≤ 40 → isq x = true → EV (d + 2) T_X12_thing 3 [some (jR 69), none, some (jI x), none] [] ν = rI (e x) (jup ν 69 24 ((p + 1 : Nat) : Int))
def StR (ν ν0 : jM) (p : Nat) : Prop := fR2 ν ν0 ∧ ν 69 24 = (p : Int) ∧ ν 69 25 = -1 ∧ p ≤ 40
theorem StR_24 {ν ν0 : jM} {p q : Nat} (h : StR ν ν0 p) (hq : q ≤ 40) : StR (jup ν 69 24 (q : Nat)) ν0 q := ⟨fR2_j h.1 (Or.inl rfl) _, jup_r _ _ _ _, (jup_m (by decide)).trans h.2.2.1, hq⟩
/-- what a reading comes to -/
def RvR (E : Option jO) (ν : jM) (e : Int → Int) (x : Rz) : Prop := (∀ q, x = Sum.inl q → ∃ y a : Int, E = rI y (jup (jup ν 69 24 a) 69 25 (q : Nat))) ∧ ∀ z, x = Sum.inr z → ∃ v : Int, E = rI v (jup ν 69 24 (z.2 : Nat)) ∧ Den e z.1 v
theorem RvR_l {E : Option jO} {ν : jM} {e : Int → Int} {q : Nat} (h : ∃ y a : Int, E = rI y (jup (jup ν 69 24 a) 69 25 (q : Nat))) : RvR E ν e (Sum.inl q) := ⟨fun q' z => (by cases z; exact h), fun z y => (by cases y)⟩
theorem RvR_r {E : Option jO} {ν : jM} {e : Int → Int} {z : List Int × Nat} (h : ∃ v : Int, E = rI v (jup ν 69 24 (z.2 : Nat)) ∧ Den e z.1 v) : RvR E ν e (Sum.inr z) := ⟨fun q' y => (by cases y), fun w y => (by cases y; exact h)⟩
def RdR (call : jM → Option jO) (ν0 : jM) (e : Int → Int) (F : Nat → Rz) : Prop := ∀ (p : Nat) (ν : jM), StR ν ν0 p → RvR (call ν) ν e (F p)
theorem q_not {x : Int} (h : isq x = false) : x ≠ 108 ∧ x ≠ 98 ∧ x ≠ 110 ∧ x ≠ 99 ∧ x ≠ 104 ∧ x ≠ 111 ∧ x ≠ 103 ∧ x ≠ 100 := by
  have := isq_n.mp h
  omega
theorem c_thing2 (d : Nat) {ν0 : jM} {P : Nat} {t : List Nat} {e : Int → Int} (hE : RdE ν0 P t e) {p : Nat} {ν : jM} (h : StR ν ν0 p) (n : Nat) {PE : Nat → Rz} (h40 : tcb t 40 p = 40 → n = 0) : RvR (EV (d + 5) T_X12_thing 2 [some (jR 69), none, some (jI (hz t 40 p)), none] [] ν) ν e (thg (tcb t 40) PE n p) := by
  obtain ⟨hR, he, hT⟩ := hE
  have hB := fR2_RB h.1 hR
  have h256 := hB.2.2.2.2.2.1
  rw [e_X12_thing_2, c_X12_in, bI_r]
  have bad : RvR (rI 0 (jup ν 69 25 (p : Int))) ν e (Sum.inl p) := RvR_l ⟨0, p, by rw [jup_id h.2.1]⟩
  unfold thg
  cases hd : isd (tcb t 40 p) with
  | true =>
    have h48 := (hz_d h256 40 p).mpr hd
    have h49 := isd_i.mp hd
    obtain ⟨b1, b2, b3⟩ := nmF_b (qc_o t) 3 0 p h.2.2.2 (by decide) (by decide) (by decide)
    have b4 := nmF_i hd
    have num : CL (d + 5) 219 [jR 69, jI 3] ν = if (nmF (tcb t 40) 3 0 p).2 = p then rI (nmF (tcb t 40) 3 0 p).1 (jup ν 69 25 p) else rI (nmF (tcb t 40) 3 0 p).1 (jup ν 69 24 ((nmF (tcb t 40) 3 0 p).2 : Nat)) := c_X12_number (d + 2) hB p h.2.1 h.2.2.1 (by have := h.2.2.2; omega) 3 (by decide)
    rw [if_pos h48, if_neg (by decide), num, if_neg (by have : p < (nmF (tcb t 40) 3 0 p).2 := b4; omega), bI_r, if_neg (by omega), if_pos rfl]
    exact RvR_r ⟨_, rfl, Den_num e b2 b3⟩
  | false =>
    have h48 : ¬ (48 ≤ hz t 40 p ∧ hz t 40 p ≤ 57) := fun z => by
      have := (hz_d h256 40 p).mp z
      rw [hd] at this
      cases this
    rw [if_neg h48, if_pos rfl, if_neg (show ¬ (false = true) by decide)]
    cases hq : isq (tcb t 40 p) with
    | true =>
      have h1 := isq_i.mp hq
      have hs : hz t 40 p = tcb t 40 p := by rcases hz_c h256 40 p with z | z <;> omega
      have fin : RvR (EV (d + 5) T_X12_thing 3 [some (jR 69), none, some (jI (hz t 40 p)), none] [] ν) ν e (Sum.inr ([1000 + tcb t 40 p], p + 1)) := by
        rw [hs, hT (d + 3) ν h.1 p (tcb t 40 p) h.2.1 h.2.2.2 hq]
        exact RvR_r ⟨_, rfl, Den_q e hq (he _)⟩
      rw [if_neg (show ¬ tcb t 40 p = 40 by omega), if_pos (show (true = true) from rfl)]
      by_cases z1 : hz t 40 p = 108
      · rw [if_pos z1]; exact fin
      rw [if_neg z1]
      by_cases z2 : hz t 40 p = 98
      · rw [if_pos z2]; exact fin
      rw [if_neg z2]
      by_cases z3 : hz t 40 p = 110
      · rw [if_pos z3]; exact fin
      rw [if_neg z3]
      by_cases z4 : hz t 40 p = 99
      · rw [if_pos z4]; exact fin
      rw [if_neg z4]
      by_cases z5 : hz t 40 p = 104
      · rw [if_pos z5]; exact fin
      rw [if_neg z5]
      by_cases z6 : hz t 40 p = 111
      · rw [if_pos z6]; exact fin
      rw [if_neg z6]
      by_cases z7 : hz t 40 p = 103
      · rw [if_pos z7]; exact fin
      rw [if_neg z7, if_pos (by omega)]
      exact fin
    | false =>
      have hn : ∀ x : Int, 0 ≤ x ∧ x < 128 → tcb t 40 p ≠ x → hz t 40 p ≠ x := fun x hx hne z => hne ((hz_e h256 40 p hx).mp z)
      obtain ⟨w1, w2, w3, w4, w5, w6, w7, w8⟩ := q_not hq
      rw [if_neg (hn 108 (by decide) w1), if_neg (hn 98 (by decide) w2), if_neg (hn 110 (by decide) w3), if_neg (hn 99 (by decide) w4), if_neg (hn 104 (by decide) w5), if_neg (hn 111 (by decide) w6), if_neg (hn 103 (by decide) w7), if_neg (hn 100 (by decide) w8), h.2.1, c_X12_fault _ h.2.2.1, bV_r]
      by_cases h40' : tcb t 40 p = 40
      · rw [if_pos h40', h40 h40', if_neg (show ¬ 0 < 0 by decide)]
        exact bad
      · rw [if_neg h40', if_neg (show ¬ (false = true) by decide)]
        exact bad
def RvF (E : Option jO) (ν : jM) (e : Int → Int) (x : Nat ⊕ (List Int × Nat × Bool)) : Prop := (∀ q, x = Sum.inl q → ∃ y a : Int, E = rI y (jup (jup ν 69 24 a) 69 25 (q : Nat))) ∧ ∀ z, x = Sum.inr z → ∃ v : Int, E = rI (if z.2.2 = true then w32 (-v) else v) (jup ν 69 24 (z.2.1 : Nat)) ∧ Den e z.1 v
theorem RvF_l {E : Option jO} {ν : jM} {e : Int → Int} {q : Nat} (h : ∃ y a : Int, E = rI y (jup (jup ν 69 24 a) 69 25 (q : Nat))) : RvF E ν e (Sum.inl q) := ⟨fun q' z => (by cases z; exact h), fun z y => (by cases y)⟩
theorem RvF_r {E : Option jO} {ν : jM} {e : Int → Int} {z : List Int × Nat × Bool} (h : ∃ v : Int, E = rI (if z.2.2 = true then w32 (-v) else v) (jup ν 69 24 (z.2.1 : Nat)) ∧ Den e z.1 v) : RvF E ν e (Sum.inr z) := ⟨fun q' y => (by cases y), fun w y => (by cases y; exact h)⟩
theorem c_thing (n a : Nat) {ν0 : jM} {P : Nat} {t : List Nat} {e : Int → Int} (hE : RdE ν0 P t e) {PE : Nat → Rz} (hP : okR 40 PE) (ha : a + n = 4) (hH : ∀ d, 0 < n → RdR (fun ν => CL (d + 50 * n) 223 [jR 69, jI ((a + 1 : Nat) : Int)] ν) ν0 e PE) : ∀ (r d p : Nat) (ν : jM), p + r = 40 → StR ν ν0 p → RvF (CL (d + 50 * n + r + 6) 226 [jR 69, jI a] ν) ν e (fcR (tcb t 40) PE n r p) := by
  have hR := hE.1
  -- no minus sign
  have base : ∀ (d' p : Nat) (ν : jM), StR ν ν0 p → tcb t 40 p ≠ 45 → (∀ b, 0 < n → RdR (fun ν => CL (d' + 5 + b) 223 [jR 69, jI ((a + 1 : Nat) : Int)] ν) ν0 e PE) → RvR (CL (d' + 6) 226 [jR 69, jI a] ν) ν e (thg (tcb t 40) PE n p) := fun d' p ν h h45 hH' => by
    have hB := fR2_RB h.1 hR
    have h256 := hB.2.2.2.2.2.1
    rw [e_X12_thing, c_X12_passes _ hB p h.2.1 h.2.2.1 45 (by decide), if_neg h45, bI_r, if_pos rfl, c_X12_fine _ h.2.2.1, bI_r, if_neg (by decide), c_X12_here _ hB p h.2.1, bI_r]
    by_cases h40 : tcb t 40 p = 40
    · have l1 := tcb_l (t := t) (B := 40) (i := p) (by rw [h40]; decide)
      rw [if_pos ((hz_e h256 40 p (by decide)).mpr h40)]
      by_cases hn : 0 < n
      · have hS := StR_24 h (q := p + 1) (by omega)
        have hr := hH' 0 hn (p + 1) _ hS
        have hok := hP (p + 1) (by omega)
        rw [if_pos (by omega), h.2.1, w_s p (by omega), w_s a (by omega)]
        unfold thg
        rw [if_pos h40, if_pos hn]
        cases hx : PE (p + 1) with
        | inl q =>
          obtain ⟨y, b, e1⟩ := hr.1 q hx
          have hq := (hok.1 q hx).2
          have e1 : CL (d' + 5) 223 [jR 69, jI ((a + 1 : Nat) : Int)] (jup ν 69 24 ((p + 1 : Nat) : Int)) = rI y (jup (jup (jup ν 69 24 ((p + 1 : Nat) : Int)) 69 24 b) 69 25 (q : Nat)) := e1
          have hl : jup (jup ν 69 24 b) 69 25 (q : Nat) 69 25 ≠ -1 := by
            rw [jup_r]
            omega
          rw [e1, jup_jup, bI_r, c_X12_passesN _ hl, bI_r, if_pos rfl, c_X12_faultN _ hl, bV_r, e_X12_thing_1]
          exact RvR_l ⟨y, b, rfl⟩
        | inr z =>
          obtain ⟨v, e1, dn⟩ := hr.2 z hx
          obtain ⟨k1, k2, k3, k4⟩ := hok.2 z hx
          have e1 : CL (d' + 5) 223 [jR 69, jI ((a + 1 : Nat) : Int)] (jup ν 69 24 ((p + 1 : Nat) : Int)) = rI v (jup (jup ν 69 24 ((p + 1 : Nat) : Int)) 69 24 (z.2 : Nat)) := e1
          have hS2 := StR_24 h (q := z.2) k2
          rw [e1, jup_jup, bI_r, c_X12_passes _ (fR2_RB hS2.1 hR) z.2 hS2.2.1 hS2.2.2.1 41 (by decide)]
          show RvR _ ν e (if tcb t 40 z.2 = 41 then Sum.inr (z.1, z.2 + 1) else Sum.inl z.2)
          by_cases h41 : tcb t 40 z.2 = 41
          · rw [if_pos h41, if_pos h41, bI_r, if_neg (by decide), e_X12_thing_1, jup_jup]
            exact RvR_r ⟨v, rfl, dn⟩
          · rw [if_neg h41, if_neg h41, bI_r, if_pos rfl, hS2.2.1, c_X12_fault _ hS2.2.2.1, bV_r, e_X12_thing_1]
            exact RvR_l ⟨v, _, rfl⟩
      · rw [if_neg (by omega)]
        have := c_thing2 d' hE h n (PE := PE) (fun _ => by omega)
        exact this
    · rw [if_neg (fun z => h40 ((hz_e h256 40 p (by decide)).mp z))]
      exact c_thing2 d' hE h n (fun z => absurd z h40)
  have fin : ∀ (x : Rz) (E : Option jO) (ν : jM), RvR E ν e x → RvF E ν e (match x with
      | Sum.inl q => Sum.inl q
      | Sum.inr z => Sum.inr (z.1, z.2, false) : Nat ⊕ (List Int × Nat × Bool)) := fun x E ν h => by
    cases x with
    | inl q => exact RvF_l (h.1 q rfl)
    | inr z =>
      obtain ⟨v, e1, dn⟩ := h.2 z rfl
      exact RvF_r ⟨v, e1, dn⟩
  have hH2 : ∀ r d b, 0 < n → RdR (fun ν => CL (d + 50 * n + r + 5 + b) 223 [jR 69, jI ((a + 1 : Nat) : Int)] ν) ν0 e PE := fun r d b hn => by
    have := hH (d + r + 5 + b) hn
    rw [show d + r + 5 + b + 50 * n = d + 50 * n + r + 5 + b by omega] at this
    exact this
  intro r
  induction r with
  | zero =>
    intro d p ν hp h
    exact fin _ _ ν (base (d + 50 * n + 0) p ν h (by rw [qc_o t p (by omega)]; decide) (fun b hn => hH2 0 d b hn))
  | succ r ih =>
    intro d p ν hp h
    by_cases h45 : tcb t 40 p = 45
    · have hB := fR2_RB h.1 hR
      have hS := StR_24 h (q := p + 1) (by omega)
      have hi := ih d (p + 1) _ (by omega) hS
      unfold fcR
      rw [if_pos h45, e_X12_thing, c_X12_passes _ hB p h.2.1 h.2.2.1 45 (by decide), if_pos h45, bI_r, if_neg (by decide), show d + 50 * n + (r + 1) + 5 = d + 50 * n + r + 6 by omega]
      cases hx : fcR (tcb t 40) PE n r (p + 1) with
      | inl q =>
        rw [hx] at hi
        obtain ⟨y, b, e1⟩ := hi.1 q rfl
        rw [e1, bI_r, jup_jup]
        exact RvF_l ⟨_, b, rfl⟩
      | inr z =>
        rw [hx] at hi
        obtain ⟨v, e1, dn⟩ := hi.2 _ rfl
        rw [e1, bI_r, jup_jup]
        show RvF _ ν e (Sum.inr (z.1, z.2.1, !z.2.2))
        refine RvF_r ⟨v, ?_, dn⟩
        show rI (w32 (-(if z.2.2 = true then w32 (-v) else v))) _ = rI (if (!z.2.2) = true then w32 (-v) else v) _
        cases z.2.2 with
        | false => rfl
        | true =>
          rw [if_pos rfl, w32_nn dn.1]
          rfl
    · have hb := base (d + 50 * n + (r + 1)) p ν h h45 (fun b hn => hH2 (r + 1) d b hn)
      unfold fcR
      rw [if_neg h45]
      exact fin _ _ ν hb
theorem c_thingF (n a : Nat) {ν0 : jM} {P : Nat} {t : List Nat} {e : Int → Int} (hE : RdE ν0 P t e) {PE : Nat → Rz} (hP : okR 40 PE) (ha : a + n = 4) (hH : ∀ d, 0 < n → RdR (fun ν => CL (d + 50 * n) 223 [jR 69, jI ((a + 1 : Nat) : Int)] ν) ν0 e PE) (d : Nat) : RdR (fun ν => CL (d + 50 * n + 46) 226 [jR 69, jI a] ν) ν0 e (fct (tcb t 40) PE n) := fun p ν h => by
  have hp := h.2.2.2
  have := c_thing n a hE hP ha hH (40 - p) (d + p) p ν (by omega) h
  rw [show d + p + 50 * n + (40 - p) + 6 = d + 50 * n + 46 by omega] at this
  show RvR (CL (d + 50 * n + 46) 226 [jR 69, jI a] ν) ν e _
  unfold fct
  cases hx : fcR (tcb t 40) PE n (40 - p) p with
  | inl q => exact RvR_l (this.1 q hx)
  | inr z =>
    obtain ⟨v, e1, dn⟩ := this.2 z hx
    refine RvR_r ⟨_, e1, ?_⟩
    show Den e (ngt z.1 z.2.2) (if z.2.2 = true then w32 (-v) else v)
    cases z.2.2 with
    | false => exact dn
    | true => exact Den_neg dn
theorem c_product (d n a : Nat) {ν0 : jM} {P : Nat} {t : List Nat} {e : Int → Int} (hE : RdE ν0 P t e) {F : Nat → Rz} (hF : okR 40 F) (hT : RdR (fun ν => CL (d + 50 * n + 46) 226 [jR 69, jI a] ν) ν0 e F) : RdR (fun ν => CL (d + 50 * n + 47) 225 [jR 69, jI a] ν) ν0 e (opP (tcb t 40) F 42 47) := by
  have hR := hE.1
  have lost : ∀ (v : Int) (m : jM), m 69 25 ≠ -1 → EV (d + 50 * n + 46) T_X12_product 1 [some (jR 69), some (jI a), some (jI v), none, none] [] m = rI v m := fun v m hm => by
    rw [e_X12_product_1, c_X12_fineN _ hm, bI_r, if_pos rfl]
  have loop : ∀ (r p : Nat) (l : List Int) (v : Int) (ν : jM), 41 ≤ p + r → StR ν ν0 p → Den e l v → RvR (EV (d + 50 * n + 46) T_X12_product 1 [some (jR 69), some (jI a), some (jI v), none, none] [] ν) ν e (lpP (tcb t 40) F 42 47 r l p) := by
    intro r
    induction r with
    | zero =>
      intro p l v ν hp h dn
      have := h.2.2.2
      omega
    | succ r ih =>
      intro p l v ν hp h dn
      have hB := fR2_RB h.1 hR
      have h256 := hB.2.2.2.2.2.1
      rw [e_X12_product_1, c_X12_fine _ h.2.2.1, bI_r, if_neg (by decide), c_X12_here _ hB p h.2.1, bI_r]
      unfold lpP
      have step : (tcb t 40 p = 42 ∨ tcb t 40 p = 47) → ∀ K : Int → jM → Option jO, (∀ y m, m 69 25 ≠ -1 → ∃ y', K y m = rI y' m) → (∀ y m, K y m = EV (d + 50 * n + 46) T_X12_product 1 [some (jR 69), some (jI a), some (jI (resu (tcb t 40 p) v y)), none, none] [] m) → RvR (bI (CL (d + 50 * n + 46) 226 [jR 69, jI a] (jup ν 69 24 ((p + 1 : Nat) : Int))) K) ν e (match F (p + 1) with
          | Sum.inl q => Sum.inl q
          | Sum.inr z => lpP (tcb t 40) F 42 47 r (l ++ z.1 ++ [1000 + tcb t 40 p]) z.2) := fun ho K hK1 hK2 => by
        have l1 := tcb_l (t := t) (B := 40) (i := p) (by rcases ho with z | z <;> rw [show tcb t 40 p = _ from z] <;> decide)
        have hS := StR_24 h (q := p + 1) (by omega)
        have hr := hT (p + 1) _ hS
        have hok := hF (p + 1) (by omega)
        cases hx : F (p + 1) with
        | inl q =>
          obtain ⟨y, b, e1⟩ := hr.1 q hx
          have hq := (hok.1 q hx).2
          have e1 : CL (d + 50 * n + 46) 226 [jR 69, jI a] (jup ν 69 24 ((p + 1 : Nat) : Int)) = rI y (jup (jup (jup ν 69 24 ((p + 1 : Nat) : Int)) 69 24 b) 69 25 (q : Nat)) := e1
          obtain ⟨y', e2⟩ := hK1 y (jup (jup ν 69 24 b) 69 25 (q : Nat)) (by rw [jup_r]; omega)
          rw [e1, jup_jup, bI_r, e2]
          exact RvR_l ⟨y', b, rfl⟩
        | inr z =>
          obtain ⟨y, e1, dn2⟩ := hr.2 z hx
          obtain ⟨k1, k2, k3, k4⟩ := hok.2 z hx
          have e1 : CL (d + 50 * n + 46) 226 [jR 69, jI a] (jup ν 69 24 ((p + 1 : Nat) : Int)) = rI y (jup (jup ν 69 24 ((p + 1 : Nat) : Int)) 69 24 (z.2 : Nat)) := e1
          have hi := ih z.2 (l ++ z.1 ++ [1000 + tcb t 40 p]) (resu (tcb t 40 p) v y) _ (by omega) (StR_24 h (q := z.2) k2) (Den_op dn dn2 (show isop (tcb t 40 p) by unfold isop; omega))
          rw [e1, jup_jup, bI_r, hK2]
          refine ⟨fun q hq => ?_, fun w hw => ?_⟩
          · obtain ⟨y', b, e3⟩ := hi.1 q hq
            exact ⟨y', b, by rw [e3, jup_jup]⟩
          · obtain ⟨y', e3, dn3⟩ := hi.2 w hw
            exact ⟨y', by rw [e3, jup_jup], dn3⟩
      by_cases h1 : tcb t 40 p = 42
      · rw [if_pos ((hz_e h256 40 p (by decide)).mpr h1), c_X12_here _ hB p h.2.1, bI_r, if_pos ((hz_e h256 40 p (by decide)).mpr h1), h.2.1, if_pos (show tcb t 40 p = 42 ∨ tcb t 40 p = 47 from Or.inl h1)]
        have l1 := tcb_l (t := t) (B := 40) (i := p) (by rw [show tcb t 40 p = _ from h1]; decide)
        rw [w_s p (by omega)]
        refine step (Or.inl h1) _ (fun y m hm => ?_) (fun y m => ?_)
        · exact ⟨_, lost _ m hm⟩
        · rw [h1]
          rfl
      · rw [if_neg (fun z => h1 ((hz_e h256 40 p (by decide)).mp z)), c_X12_here _ hB p h.2.1, bI_r]
        by_cases h2 : tcb t 40 p = 47
        · rw [if_pos ((hz_e h256 40 p (by decide)).mpr h2), c_X12_here _ hB p h.2.1, bI_r, if_neg (fun z => h1 ((hz_e h256 40 p (by decide)).mp z)), h.2.1, if_pos (show tcb t 40 p = 42 ∨ tcb t 40 p = 47 from Or.inr h2)]
          have l1 := tcb_l (t := t) (B := 40) (i := p) (by rw [show tcb t 40 p = _ from h2]; decide)
          rw [w_s p (by omega)]
          refine step (Or.inr h2) _ (fun y m hm => ?_) (fun y m => ?_)
          · show ∃ y', (if (0 : Int) = 0 then _ else _) = _
            rw [if_pos rfl]
            by_cases hy : y = 0
            · rw [if_pos hy]
              exact ⟨_, lost _ m hm⟩
            · rw [if_neg hy, gd_t hy]
              exact ⟨_, lost _ m hm⟩
          · rw [h2]
            show (if (0 : Int) = 0 then _ else _) = _
            rw [if_pos rfl, show resu 47 v y = if y = 0 then 0 else jdiv v y from rfl]
            by_cases hy : y = 0
            · rw [if_pos hy, if_pos hy]
            · rw [if_neg hy, gd_t hy, if_neg hy]
        · rw [if_neg (fun z => h2 ((hz_e h256 40 p (by decide)).mp z)), if_neg (show ¬ (tcb t 40 p = 42 ∨ tcb t 40 p = 47) from fun z => by rcases z with z | z; exact h1 z; exact h2 z)]
          refine RvR_r ⟨v, ?_, dn⟩
          show rI v ν = rI v (jup ν 69 24 (p : Nat))
          rw [jup_id h.2.1]
  intro p ν h
  have hr := hT p ν h
  have hok := hF p h.2.2.2
  show RvR (CL (d + 50 * n + 47) 225 [jR 69, jI a] ν) ν e _
  rw [e_X12_product]
  unfold opP
  cases hx : F p with
  | inl q =>
    obtain ⟨y, b, e1⟩ := hr.1 q hx
    have hq := (hok.1 q hx).2
    have e1 : CL (d + 50 * n + 46) 226 [jR 69, jI a] ν = rI y (jup (jup ν 69 24 b) 69 25 (q : Nat)) := e1
    rw [e1, bI_r, lost _ _ (by rw [jup_r]; omega)]
    exact RvR_l ⟨y, b, rfl⟩
  | inr z =>
    obtain ⟨y, e1, dn⟩ := hr.2 z hx
    obtain ⟨k1, k2, k3, k4⟩ := hok.2 z hx
    have e1 : CL (d + 50 * n + 46) 226 [jR 69, jI a] ν = rI y (jup ν 69 24 (z.2 : Nat)) := e1
    have hi := loop 40 z.2 z.1 y _ (by omega) (StR_24 h (q := z.2) k2) dn
    rw [e1, bI_r]
    refine ⟨fun q hq => ?_, fun w hw => ?_⟩
    · obtain ⟨y', b, e3⟩ := hi.1 q hq
      exact ⟨y', b, by rw [e3, jup_jup]⟩
    · obtain ⟨y', e3, dn3⟩ := hi.2 w hw
      exact ⟨y', by rw [e3, jup_jup], dn3⟩
theorem c_sum (d n a : Nat) {ν0 : jM} {P : Nat} {t : List Nat} {e : Int → Int} (hE : RdE ν0 P t e) {F : Nat → Rz} (hF : okR 40 F) (hT : RdR (fun ν => CL (d + 50 * n + 47) 225 [jR 69, jI a] ν) ν0 e F) : RdR (fun ν => CL (d + 50 * n + 48) 224 [jR 69, jI a] ν) ν0 e (opP (tcb t 40) F 43 45) := by
  have hR := hE.1
  have lost : ∀ (v : Int) (m : jM), m 69 25 ≠ -1 → EV (d + 50 * n + 47) T_X12_sum 1 [some (jR 69), some (jI a), some (jI v), none, none] [] m = rI v m := fun v m hm => by
    rw [e_X12_sum_1, c_X12_fineN _ hm, bI_r, if_pos rfl]
  have loop : ∀ (r p : Nat) (l : List Int) (v : Int) (ν : jM), 41 ≤ p + r → StR ν ν0 p → Den e l v → RvR (EV (d + 50 * n + 47) T_X12_sum 1 [some (jR 69), some (jI a), some (jI v), none, none] [] ν) ν e (lpP (tcb t 40) F 43 45 r l p) := by
    intro r
    induction r with
    | zero =>
      intro p l v ν hp h dn
      have := h.2.2.2
      omega
    | succ r ih =>
      intro p l v ν hp h dn
      have hB := fR2_RB h.1 hR
      have h256 := hB.2.2.2.2.2.1
      rw [e_X12_sum_1, c_X12_fine _ h.2.2.1, bI_r, if_neg (by decide), c_X12_here _ hB p h.2.1, bI_r]
      unfold lpP
      have step : (tcb t 40 p = 43 ∨ tcb t 40 p = 45) → ∀ K : Int → jM → Option jO, (∀ y m, m 69 25 ≠ -1 → ∃ y', K y m = rI y' m) → (∀ y m, K y m = EV (d + 50 * n + 47) T_X12_sum 1 [some (jR 69), some (jI a), some (jI (resu (tcb t 40 p) v y)), none, none] [] m) → RvR (bI (CL (d + 50 * n + 47) 225 [jR 69, jI a] (jup ν 69 24 ((p + 1 : Nat) : Int))) K) ν e (match F (p + 1) with
          | Sum.inl q => Sum.inl q
          | Sum.inr z => lpP (tcb t 40) F 43 45 r (l ++ z.1 ++ [1000 + tcb t 40 p]) z.2) := fun ho K hK1 hK2 => by
        have l1 := tcb_l (t := t) (B := 40) (i := p) (by rcases ho with z | z <;> rw [show tcb t 40 p = _ from z] <;> decide)
        have hS := StR_24 h (q := p + 1) (by omega)
        have hr := hT (p + 1) _ hS
        have hok := hF (p + 1) (by omega)
        cases hx : F (p + 1) with
        | inl q =>
          obtain ⟨y, b, e1⟩ := hr.1 q hx
          have hq := (hok.1 q hx).2
          have e1 : CL (d + 50 * n + 47) 225 [jR 69, jI a] (jup ν 69 24 ((p + 1 : Nat) : Int)) = rI y (jup (jup (jup ν 69 24 ((p + 1 : Nat) : Int)) 69 24 b) 69 25 (q : Nat)) := e1
          obtain ⟨y', e2⟩ := hK1 y (jup (jup ν 69 24 b) 69 25 (q : Nat)) (by rw [jup_r]; omega)
          rw [e1, jup_jup, bI_r, e2]
          exact RvR_l ⟨y', b, rfl⟩
        | inr z =>
          obtain ⟨y, e1, dn2⟩ := hr.2 z hx
          obtain ⟨k1, k2, k3, k4⟩ := hok.2 z hx
          have e1 : CL (d + 50 * n + 47) 225 [jR 69, jI a] (jup ν 69 24 ((p + 1 : Nat) : Int)) = rI y (jup (jup ν 69 24 ((p + 1 : Nat) : Int)) 69 24 (z.2 : Nat)) := e1
          have hi := ih z.2 (l ++ z.1 ++ [1000 + tcb t 40 p]) (resu (tcb t 40 p) v y) _ (by omega) (StR_24 h (q := z.2) k2) (Den_op dn dn2 (show isop (tcb t 40 p) by unfold isop; omega))
          rw [e1, jup_jup, bI_r, hK2]
          refine ⟨fun q hq => ?_, fun w hw => ?_⟩
          · obtain ⟨y', b, e3⟩ := hi.1 q hq
            exact ⟨y', b, by rw [e3, jup_jup]⟩
          · obtain ⟨y', e3, dn3⟩ := hi.2 w hw
            exact ⟨y', by rw [e3, jup_jup], dn3⟩
      by_cases h1 : tcb t 40 p = 43
      · rw [if_pos ((hz_e h256 40 p (by decide)).mpr h1), c_X12_here _ hB p h.2.1, bI_r, if_pos ((hz_e h256 40 p (by decide)).mpr h1), h.2.1, if_pos (show tcb t 40 p = 43 ∨ tcb t 40 p = 45 from Or.inl h1)]
        have l1 := tcb_l (t := t) (B := 40) (i := p) (by rw [show tcb t 40 p = _ from h1]; decide)
        rw [w_s p (by omega)]
        refine step (Or.inl h1) _ (fun y m hm => ?_) (fun y m => ?_)
        · exact ⟨_, lost _ m hm⟩
        · rw [h1]
          rfl
      · rw [if_neg (fun z => h1 ((hz_e h256 40 p (by decide)).mp z)), c_X12_here _ hB p h.2.1, bI_r]
        by_cases h2 : tcb t 40 p = 45
        · rw [if_pos ((hz_e h256 40 p (by decide)).mpr h2), c_X12_here _ hB p h.2.1, bI_r, if_neg (fun z => h1 ((hz_e h256 40 p (by decide)).mp z)), h.2.1, if_pos (show tcb t 40 p = 43 ∨ tcb t 40 p = 45 from Or.inr h2)]
          have l1 := tcb_l (t := t) (B := 40) (i := p) (by rw [show tcb t 40 p = _ from h2]; decide)
          rw [w_s p (by omega)]
          refine step (Or.inr h2) _ (fun y m hm => ?_) (fun y m => ?_)
          · exact ⟨_, lost _ m hm⟩
          · rw [h2]
            rfl
        · rw [if_neg (fun z => h2 ((hz_e h256 40 p (by decide)).mp z)), if_neg (show ¬ (tcb t 40 p = 43 ∨ tcb t 40 p = 45) from fun z => by rcases z with z | z; exact h1 z; exact h2 z)]
          refine RvR_r ⟨v, ?_, dn⟩
          show rI v ν = rI v (jup ν 69 24 (p : Nat))
          rw [jup_id h.2.1]
  intro p ν h
  have hr := hT p ν h
  have hok := hF p h.2.2.2
  show RvR (CL (d + 50 * n + 48) 224 [jR 69, jI a] ν) ν e _
  rw [e_X12_sum]
  unfold opP
  cases hx : F p with
  | inl q =>
    obtain ⟨y, b, e1⟩ := hr.1 q hx
    have hq := (hok.1 q hx).2
    have e1 : CL (d + 50 * n + 47) 225 [jR 69, jI a] ν = rI y (jup (jup ν 69 24 b) 69 25 (q : Nat)) := e1
    rw [e1, bI_r, lost _ _ (by rw [jup_r]; omega)]
    exact RvR_l ⟨y, b, rfl⟩
  | inr z =>
    obtain ⟨y, e1, dn⟩ := hr.2 z hx
    obtain ⟨k1, k2, k3, k4⟩ := hok.2 z hx
    have e1 : CL (d + 50 * n + 47) 225 [jR 69, jI a] ν = rI y (jup ν 69 24 (z.2 : Nat)) := e1
    have hi := loop 40 z.2 z.1 y _ (by omega) (StR_24 h (q := z.2) k2) dn
    rw [e1, bI_r]
    refine ⟨fun q hq => ?_, fun w hw => ?_⟩
    · obtain ⟨y', b, e3⟩ := hi.1 q hq
      exact ⟨y', b, by rw [e3, jup_jup]⟩
    · obtain ⟨y', e3, dn3⟩ := hi.2 w hw
      exact ⟨y', by rw [e3, jup_jup], dn3⟩
theorem c_held (d n a : Nat) {ν0 : jM} {P : Nat} {t : List Nat} {e : Int → Int} (hE : RdE ν0 P t e) {S : Nat → Rz} (hF : okR 40 S) (hT : RdR (fun ν => CL (d + 50 * n + 48) 224 [jR 69, jI a] ν) ν0 e S) : RdR (fun ν => CL (d + 50 * n + 49) 223 [jR 69, jI a] ν) ν0 e (exE (tcb t 40) S) := by
  have hR := hE.1
  intro p ν h
  have hr := hT p ν h
  have hokp := hF p h.2.2.2
  show RvR (CL (d + 50 * n + 49) 223 [jR 69, jI a] ν) ν e _
  rw [e_X12_held]
  unfold exE
  cases hx : S p with
  | inl q =>
    obtain ⟨y, b, e1⟩ := hr.1 q hx
    have hq := (hokp.1 q hx).2
    have e1 : CL (d + 50 * n + 48) 224 [jR 69, jI a] ν = rI y (jup (jup ν 69 24 b) 69 25 (q : Nat)) := e1
    have hl : jup (jup ν 69 24 b) 69 25 (q : Nat) 69 25 ≠ -1 := by
      rw [jup_r]
      omega
    rw [e1, bI_r, c_X12_passesN _ hl, bI_r, if_pos rfl, c_X12_passesN _ hl, bI_r, if_pos rfl, c_X12_passesN _ hl, bI_r, if_pos rfl]
    exact RvR_l ⟨y, b, rfl⟩
  | inr z =>
    obtain ⟨v, e1, dn⟩ := hr.2 z hx
    obtain ⟨k1, k2, k3, k4⟩ := hokp.2 z hx
    have e1 : CL (d + 50 * n + 48) 224 [jR 69, jI a] ν = rI v (jup ν 69 24 (z.2 : Nat)) := e1
    have hS := StR_24 h (q := z.2) k2
    have hB := fR2_RB hS.1 hR
    rw [e1, bI_r, c_X12_passes _ hB z.2 hS.2.1 hS.2.2.1 60 (by decide)]
    have go : (tcb t 40 z.2 = 60 ∨ tcb t 40 z.2 = 62 ∨ tcb t 40 z.2 = 61) → ∀ K : Int → jM → Option jO, (∀ y m, K y m = rI (resu (tcb t 40 z.2) v y) m) → RvR (bI (CL (d + 50 * n + 48) 224 [jR 69, jI a] (jup (jup ν 69 24 (z.2 : Nat)) 69 24 ((z.2 + 1 : Nat) : Int))) K) ν e (match S (z.2 + 1) with
        | Sum.inl q => Sum.inl q
        | Sum.inr y => Sum.inr (z.1 ++ y.1 ++ [1000 + tcb t 40 z.2], y.2)) := fun ho K hK => by
      have l1 := tcb_l (t := t) (B := 40) (i := z.2) (by rcases ho with w | w | w <;> rw [show tcb t 40 z.2 = _ from w] <;> decide)
      have hS2 := StR_24 h (q := z.2 + 1) (by omega)
      have hr2 := hT (z.2 + 1) _ hS2
      rw [jup_jup]
      cases hy : S (z.2 + 1) with
      | inl q =>
        obtain ⟨y, b, e2⟩ := hr2.1 q hy
        have e2 : CL (d + 50 * n + 48) 224 [jR 69, jI a] (jup ν 69 24 ((z.2 + 1 : Nat) : Int)) = rI y (jup (jup (jup ν 69 24 ((z.2 + 1 : Nat) : Int)) 69 24 b) 69 25 (q : Nat)) := e2
        rw [e2, jup_jup, bI_r, hK]
        exact RvR_l ⟨_, b, rfl⟩
      | inr w =>
        obtain ⟨y, e2, dn2⟩ := hr2.2 w hy
        have e2 : CL (d + 50 * n + 48) 224 [jR 69, jI a] (jup ν 69 24 ((z.2 + 1 : Nat) : Int)) = rI y (jup (jup ν 69 24 ((z.2 + 1 : Nat) : Int)) 69 24 (w.2 : Nat)) := e2
        rw [e2, jup_jup, bI_r, hK]
        exact RvR_r ⟨_, rfl, Den_op dn dn2 (show isop (tcb t 40 z.2) by unfold isop; omega)⟩
    show RvR _ ν e (if tcb t 40 z.2 = 60 ∨ tcb t 40 z.2 = 62 ∨ tcb t 40 z.2 = 61 then _ else _)
    by_cases h1 : tcb t 40 z.2 = 60
    · rw [if_pos h1, if_pos (show tcb t 40 z.2 = 60 ∨ tcb t 40 z.2 = 62 ∨ tcb t 40 z.2 = 61 from Or.inl h1), bI_r, if_neg (by decide)]
      refine go (Or.inl h1) _ (fun y m => ?_)
      rw [h1, show resu 60 v y = if v < y then 1 else 0 from rfl]
      by_cases hy : v < y
      · rw [if_pos hy, if_pos hy]
      · rw [if_neg hy, if_neg hy]
    · rw [if_neg h1, bI_r, if_pos rfl, c_X12_passes _ hB z.2 hS.2.1 hS.2.2.1 62 (by decide)]
      by_cases h2 : tcb t 40 z.2 = 62
      · rw [if_pos h2, if_pos (show tcb t 40 z.2 = 60 ∨ tcb t 40 z.2 = 62 ∨ tcb t 40 z.2 = 61 from Or.inr (Or.inl h2)), bI_r, if_neg (by decide)]
        refine go (Or.inr (Or.inl h2)) _ (fun y m => ?_)
        rw [h2, show resu 62 v y = if y < v then 1 else 0 from rfl]
        by_cases hy : y < v
        · rw [if_pos hy, if_pos hy]
        · rw [if_neg hy, if_neg hy]
      · rw [if_neg h2, bI_r, if_pos rfl, c_X12_passes _ hB z.2 hS.2.1 hS.2.2.1 61 (by decide)]
        by_cases h3 : tcb t 40 z.2 = 61
        · rw [if_pos h3, if_pos (show tcb t 40 z.2 = 60 ∨ tcb t 40 z.2 = 62 ∨ tcb t 40 z.2 = 61 from Or.inr (Or.inr h3)), bI_r, if_neg (by decide)]
          refine go (Or.inr (Or.inr h3)) _ (fun y m => ?_)
          rw [h3, show resu 61 v y = if v = y then 1 else 0 from rfl]
          by_cases hy : v = y
          · rw [if_pos hy, if_pos hy]
          · rw [if_neg hy, if_neg hy]
        · rw [if_neg h3, if_neg (show ¬ (tcb t 40 z.2 = 60 ∨ tcb t 40 z.2 = 62 ∨ tcb t 40 z.2 = 61) from fun w => by rcases w with w | w | w; exact h1 w; exact h2 w; exact h3 w), bI_r, if_pos rfl]
          exact RvR_r ⟨v, rfl, dn⟩
theorem c_hlev (n a : Nat) {ν0 : jM} {P : Nat} {t : List Nat} {e : Int → Int} (hE : RdE ν0 P t e) {PE : Nat → Rz} (hP : okR 40 PE) (ha : a + n = 4) (hH : ∀ d, 0 < n → RdR (fun ν => CL (d + 50 * n) 223 [jR 69, jI ((a + 1 : Nat) : Int)] ν) ν0 e PE) (d : Nat) : RdR (fun ν => CL (d + 50 * n + 49) 223 [jR 69, jI a] ν) ν0 e (pExp (tcb t 40) PE n) :=
  c_held d n a hE (pSum_ok (qc_o t) hP n) (c_sum d n a hE (pPro_ok (qc_o t) hP n) (c_product d n a hE (fct_ok (qc_o t) hP n) (c_thingF n a hE hP ha hH d)))
theorem c_X12_exp {ν0 : jM} {P : Nat} {t : List Nat} {e : Int → Int} (hE : RdE ν0 P t e) : ∀ (n a : Nat), a + n = 4 → ∀ d, RdR (fun ν => CL (d + 50 * n + 49) 223 [jR 69, jI a] ν) ν0 e (pEx (tcb t 40) n)
  | 0, a, ha => fun d => c_hlev 0 a hE ok_no ha (fun _ h => absurd h (by decide)) d
  | n + 1, a, ha => fun d => c_hlev (n + 1) a hE (pEx_ok (qc_o t) n) ha (fun d' _ => by
    have := c_X12_exp hE n (a + 1) (by omega) (d' + 1)
    rw [show d' + 1 + 50 * n + 49 = d' + 50 * (n + 1) by omega] at this
    exact this) d
/-! THE RULE read by the reference -/
def TaR (ν : jM) (r : List Nat) : Prop := Rok r ∧ ν 69 27 = (r.length : Int) ∧ ∀ i : Nat, i < r.length → ν 82 (i : Int) = sgb (r.getD i 0)
theorem sgb_b8 {c : Nat} (h : c < 256) : jb8 (sgb c) = sgb c := by
  rw [b8_m]
  unfold sgb
  rw [Int.bmod_def]
  split <;> split <;> omega
theorem c_X12_rule (d : Nat) {μ : jM} {t r : List Nat} (ht : TR μ t) (hr : TaR μ r) : ∃ μ', CL (d + 250) 228 [jR 69] μ = rI (ruA t) μ' ∧ ((∀ q, q ≠ 69 → q ≠ 82 → μ' q = μ q) ∧ ∀ j : Int, j ≠ 17 → (j < 20 ∨ 28 < j) → μ' 69 j = μ 69 j) ∧ TaR μ' (ruT r t) ∧ TR μ' [] := by
  obtain ⟨h1, h2, h3, h4⟩ := ht
  obtain ⟨p1, p2⟩ := ruP_ok (t := t)
  let m1 : jM := jup (jup (jup (jup (jup (jup (jup (jup μ 69 20 0) 69 21 (80 : Nat)) 69 22 (t.length : Nat)) 69 23 40) 69 24 0) 69 25 (-1)) 69 17 0) 69 28 (-1)
  have e17 : jup μ 69 20 0 69 17 = (t.length : Int) := (jup_m (by decide)).trans h3
  have n1 : ∀ q, q ≠ 69 → m1 q = μ q := fun q hq => by
    show jup (jup (jup (jup (jup (jup (jup (jup μ 69 20 0) 69 21 _) 69 22 _) 69 23 40) 69 24 0) 69 25 (-1)) 69 17 0) 69 28 (-1) q = _
    rw [jup_ne hq, jup_ne hq, jup_ne hq, jup_ne hq, jup_ne hq, jup_ne hq, jup_ne hq, jup_ne hq]
  have j1 : ∀ j : Int, j ≠ 17 → (j < 20 ∨ 25 < j) → j ≠ 28 → m1 69 j = μ 69 j := fun j a b c => by
    show jup (jup (jup (jup (jup (jup (jup (jup μ 69 20 0) 69 21 _) 69 22 _) 69 23 40) 69 24 0) 69 25 (-1)) 69 17 0) 69 28 (-1) 69 j = _
    rw [jup_m c, jup_m a, jup_m (by omega), jup_m (by omega), jup_m (by omega), jup_m (by omega), jup_m (by omega), jup_m (by omega)]
  have v28 : m1 69 28 = -1 := jup_r _ _ _ _
  have v17 : m1 69 17 = 0 := (jup_m (by decide)).trans (jup_r _ _ _ _)
  have v21 : m1 69 21 = ((80 : Nat) : Int) := (jup_m (by decide)).trans ((jup_m (by decide)).trans ((jup_m (by decide)).trans ((jup_m (by decide)).trans ((jup_m (by decide)).trans ((jup_m (by decide)).trans (jup_r _ _ _ _))))))
  have v22 : m1 69 22 = (t.length : Int) := (jup_m (by decide)).trans ((jup_m (by decide)).trans ((jup_m (by decide)).trans ((jup_m (by decide)).trans ((jup_m (by decide)).trans (jup_r _ _ _ _)))))
  have v23 : m1 69 23 = 40 := (jup_m (by decide)).trans ((jup_m (by decide)).trans ((jup_m (by decide)).trans ((jup_m (by decide)).trans (jup_r _ _ _ _))))
  have v24 : m1 69 24 = 0 := (jup_m (by decide)).trans ((jup_m (by decide)).trans ((jup_m (by decide)).trans (jup_r _ _ _ _)))
  have v25 : m1 69 25 = -1 := (jup_m (by decide)).trans ((jup_m (by decide)).trans (jup_r _ _ _ _))
  have t0 : ∀ m : jM, m 69 17 = 0 → TR m [] := fun m h => ⟨by decide, fun c hc => (by cases hc), h, fun i hi => absurd hi (Nat.not_lt_zero i)⟩
  have hB1 : RB m1 80 t 40 := ⟨Or.inl rfl, v21, v22, v23, by rw [show LN 80 = 80 by decide]; omega, h2, fun i hi => by rw [n1 80 (by decide)]; exact h4 i hi⟩
  have hE : RdE m1 80 t (fun _ => 0) := ⟨hB1, fun _ => by show -2147483648 ≤ (0 : Int) ∧ (0 : Int) ≤ 2147483647; decide, fun d ν f p x hp hp40 hx => by
    have e28 : jup ν 69 24 ((p + 1 : Nat) : Int) 69 28 = -1 := (jup_m (by decide)).trans ((f.2 28 (by decide) (by decide)).trans v28)
    rw [e_X12_thing_3, hp, w_s p (by omega), e28, if_pos rfl]⟩
  have hS : StR m1 m1 0 := ⟨fR2_r m1, v24, v25, by decide⟩
  -- a rule that is one: it is copied
  have copy : ∀ m : jM, (∀ q, q ≠ 69 → m q = μ q) → (∀ j : Int, j ≠ 17 → (j < 20 ∨ 28 < j) → m 69 j = μ 69 j) → m 69 17 = 0 → Rok t → ∃ μ', EV (d + 249) T_X12_rule 1 [some (jR 69), some (jI t.length), some (jI 0)] [] m = rI 0 μ' ∧ ((∀ q, q ≠ 69 → q ≠ 82 → μ' q = μ q) ∧ ∀ j : Int, j ≠ 17 → (j < 20 ∨ 28 < j) → μ' 69 j = μ 69 j) ∧ TaR μ' t ∧ TR μ' [] := fun m a b c hok => by
    have h40 := hok.1
    obtain ⟨m3, e3, w3⟩ := lp_i (fun (z : Nat) (s : jM) => EV (d + 249) T_X12_rule 1 [some (jR 69), some (jI t.length), some (jI z)] [] s) (fun z s => wr m 82 0 (fun j => sgb (t.getD j 0)) z s) t.length (fun z s hz h => by
      have h : wr m 82 0 (fun j => sgb (t.getD j 0)) z s := h
      have e80 : s 80 (z : Int) = sgb (t.getD z 0) := by
        rw [h.1 80 (by decide), a 80 (by decide)]
        exact h4 z hz
      have hw := wr_s h (v := sgb (t.getD z 0)) rfl
      rw [Nat.zero_add] at hw
      refine ⟨_, ?_, hw⟩
      show EV (d + 249) T_X12_rule 1 [some (jR 69), some (jI t.length), some (jI z)] [] s = _
      rw [e_X12_rule_1, if_pos (by omega), gd_t (by omega), gd_t (by omega), e80, sgb_b8 (t256 h2 hz), w_s z (by omega)]) m (wr_0 _ _ _ _)
    have w3 : wr m 82 0 (fun j => sgb (t.getD j 0)) t.length m3 := w3
    have s3 : m3 69 = m 69 := w3.1 69 (by decide)
    refine ⟨jup m3 69 27 (t.length : Int), ?_, ⟨fun q x y => (jup_ne x).trans ((w3.1 q y).trans (a q x)), fun j x y => (jup_m (by omega)).trans (by rw [s3]; exact b j x y)⟩, ⟨hok, jup_r _ _ _ _, fun i hi => ?_⟩, t0 _ ((jup_m (by decide)).trans (by rw [s3]; exact c))⟩
    · refine Eq.trans e3 ?_
      show EV (d + 249) T_X12_rule 1 [some (jR 69), some (jI t.length), some (jI t.length)] [] m3 = _
      rw [e_X12_rule_1, if_neg (by omega)]
    · rw [jup_ne (by decide)]
      have := wr_i w3 hi
      rw [Nat.zero_add] at this
      exact this
  have frame : ∀ m : jM, fR2 m m1 → ((∀ q, q ≠ 69 → q ≠ 82 → m q = μ q) ∧ ∀ j : Int, j ≠ 17 → (j < 20 ∨ 28 < j) → m 69 j = μ 69 j) ∧ TaR m r ∧ TR m [] := fun m f => ⟨⟨fun q x _ => (f.1 q x).trans (n1 q x), fun j x y => (f.2 j (by omega) (by omega)).trans (j1 j x (by omega) (by omega))⟩, ⟨hr.1, ((f.2 27 (by decide) (by decide)).trans (j1 27 (by decide) (by decide) (by decide))).trans hr.2.1, fun i hi => by rw [f.1 82 (by decide), n1 82 (by decide)]; exact hr.2.2 i hi⟩, t0 _ ((f.2 17 (by decide) (by decide)).trans v17)⟩
  rw [e_X12_rule, e17, e_X12_begin, bV_r]
  have fold : jup (jup (jup (jup (jup (jup (jup (jup μ 69 20 0) 69 21 (80 : Nat)) 69 22 (t.length : Nat)) 69 23 40) 69 24 0) 69 25 (-1)) 69 17 0) 69 28 (-1) = m1 := rfl
  rw [fold]
  unfold ruA ruT
  by_cases h0 : t.length = 0
  · have e : ruP t = Sum.inr ([], 0) := if_pos h0
    have hok : Rok t := ⟨by omega, h2, [], by rw [e, h0]⟩
    rw [if_neg (by omega), e]
    show ∃ μ', _ = rI (if 0 < t.length then _ else 0) μ' ∧ _ ∧ TaR μ' (if 0 < t.length then r else t) ∧ _
    rw [if_neg (by omega), if_neg (by omega)]
    exact copy m1 n1 (fun j x y => j1 j x (by omega) (by omega)) v17 hok
  · have eP : ruP t = pEx (tcb t 40) 4 0 := if_neg h0
    have hx := c_X12_exp hE 4 0 rfl d 0 m1 hS
    rw [← eP] at hx
    rw [if_pos (by omega)]
    cases hP : ruP t with
    | inl q =>
      obtain ⟨y, b, e⟩ := hx.1 q hP
      have hq := p1 q hP
      have e : CL (d + 249) 223 [jR 69, jI 0] m1 = rI y (jup (jup m1 69 24 b) 69 25 (q : Nat)) := e
      have hl : jup (jup m1 69 24 b) 69 25 (q : Nat) 69 25 ≠ -1 := by
        rw [jup_r]
        omega
      have fr := frame (jup (jup m1 69 24 b) 69 25 (q : Nat)) (fR2_j (fR2_j (fR2_r m1) (Or.inl rfl) _) (Or.inr rfl) _)
      rw [e, bI_r]
      by_cases hc : jup (jup m1 69 24 b) 69 25 (q : Nat) 69 24 < (t.length : Int)
      · rw [if_pos hc, c_X12_faultN _ hl, bV_r, c_X12_fineN _ hl, bI_r, if_pos rfl, jup_r, w_id (by omega) (by omega)]
        exact ⟨_, rfl, fr⟩
      · rw [if_neg hc, c_X12_fineN _ hl, bI_r, if_pos rfl, jup_r, w_id (by omega) (by omega)]
        exact ⟨_, rfl, fr⟩
    | inr z =>
      obtain ⟨v, e, -⟩ := hx.2 z hP
      obtain ⟨z1, z2, -⟩ := p2 z hP
      have e : CL (d + 249) 223 [jR 69, jI 0] m1 = rI v (jup m1 69 24 (z.2 : Nat)) := e
      have v25' : jup m1 69 24 (z.2 : Nat) 69 25 = -1 := (jup_m (by decide)).trans v25
      rw [e, bI_r, show jup m1 69 24 (z.2 : Nat) 69 24 = (z.2 : Int) from jup_r _ _ _ _]
      show ∃ μ', _ = rI (if z.2 < t.length then -1 - (z.2 : Int) else 0) μ' ∧ _ ∧ TaR μ' (if z.2 < t.length then r else t) ∧ _
      by_cases hl : z.2 < t.length
      · rw [if_pos (by omega), if_pos hl, if_pos hl, c_X12_fault _ v25', bV_r, c_X12_fineN _ (by rw [jup_r]; omega), bI_r, if_pos rfl, jup_r, w_id (by omega) (by omega)]
        exact ⟨_, rfl, frame _ (fR2_j (fR2_j (fR2_r m1) (Or.inl rfl) _) (Or.inr rfl) _)⟩
      · have hzl : z.2 = t.length := by
          have := (pEx_ok (N := t.length) (c := tcb t 40) (fun i hi => if_neg (by omega)) 4 0 (by omega)).2 z (by rw [← eP]; exact hP)
          omega
        have hok : Rok t := ⟨by omega, h2, z.1, by rw [hP, ← hzl]⟩
        rw [if_neg (by omega), if_neg hl, if_neg hl, c_X12_fine _ v25', bI_r, if_neg (by decide)]
        exact copy _ (fun q hq => (jup_ne hq).trans (n1 q hq)) (fun j x y => (jup_m (by omega)).trans (j1 j x (by omega) (by omega))) ((jup_m (by decide)).trans v17) hok
