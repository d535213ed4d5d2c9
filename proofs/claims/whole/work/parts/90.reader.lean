/-! ## reading: what both sides see of the text, up to a bound -/
def tcb (t : List Nat) (B : Int) (i : Nat) : Int := if i < t.length ∧ (i : Int) < B then (t.getD i 0 : Int) else -1
theorem c_X10_atB (d : Nat) {μ : jM} {t : List Nat} (ht : TC μ t) (i : Nat) (B : Int) : CL (d + 1) 143 [jR 1, jI i, jI B] μ = rI (tcb t B i) μ := by
  obtain ⟨h1, h2, h3, h4⟩ := ht
  rw [e_X10_at, h3, if_neg (by omega)]
  unfold tcb
  by_cases hi : i < t.length
  · rw [if_pos (by omega)]
    by_cases h10 : (i : Int) < B
    · rw [if_pos h10, gd_t (by omega), h4 i hi, if_pos ⟨hi, h10⟩]
    · rw [if_neg h10, if_neg (fun z => h10 z.2)]
  · rw [if_neg (by omega), if_neg (fun z => hi z.1)]
theorem tcb_b {t : List Nat} (h : ∀ c ∈ t, c < 256) (B : Int) (i : Nat) : -1 ≤ tcb t B i ∧ tcb t B i < 256 := by
  unfold tcb
  by_cases hi : i < t.length ∧ (i : Int) < B
  · rw [if_pos hi]
    have := t256 h hi.1
    omega
  · rw [if_neg hi]
    omega
theorem tcb_o {t : List Nat} {B : Int} {i : Nat} (h : B ≤ i) : tcb t B i = -1 := if_neg (by omega)
theorem tcb_l {t : List Nat} {B : Int} {i : Nat} (h : tcb t B i ≠ -1) : i < t.length ∧ (i : Int) < B := by
  by_cases hi : i < t.length ∧ (i : Int) < B
  · exact hi
  · exact absurd (if_neg hi) h
def isd (x : Int) : Bool := decide (48 ≤ x ∧ x ≤ 57)
def isl (x : Int) : Bool := decide (97 ≤ x ∧ x < 105)
theorem isd_i {x : Int} : isd x = true ↔ 48 ≤ x ∧ x ≤ 57 := decide_eq_true_iff
theorem isl_i {x : Int} : isl x = true ↔ 97 ≤ x ∧ x < 105 := decide_eq_true_iff
theorem isd_n {x : Int} : isd x = false ↔ ¬ (48 ≤ x ∧ x ≤ 57) := decide_eq_false_iff_not
theorem isl_n {x : Int} : isl x = false ↔ ¬ (97 ≤ x ∧ x < 105) := decide_eq_false_iff_not
theorem c_X10_hasDigit (d : Nat) {μ : jM} {t : List Nat} (ht : TC μ t) (i : Nat) (B : Int) : CL (d + 2) 144 [jR 1, jI i, jI B] μ = rI (if isd (tcb t B i) then 1 else 0) μ := by
  rw [e_X10_hasDigit, c_X10_atB _ ht, bI_r]
  cases hd : isd (tcb t B i) with
  | true =>
    have := isd_i.mp hd
    rw [if_neg (by omega), if_neg (by omega), gd_t (by omega)]
    rfl
  | false =>
    have := isd_n.mp hd
    by_cases h1 : tcb t B i < 48
    · rw [if_pos h1, gd_t (by omega)]
      rfl
    · rw [if_neg h1, if_pos (by omega), gd_t (by omega)]
      rfl
/-- letters that rise: their bits, and where they end -/
def rsF (c : Nat → Int) : Nat → Nat → Nat → Nat × Nat
  | 0, b, p => (b, p)
  | r + 1, b, p => if isl (c p) && decide (b / 2 ^ (c p - 97).toNat = 0) then rsF c r (b ||| 2 ^ (c p - 97).toNat) (p + 1) else (b, p)
theorem rsF_y {c : Nat → Int} {r b p : Nat} (h1 : isl (c p) = true) (h2 : b / 2 ^ (c p - 97).toNat = 0) : rsF c (r + 1) b p = rsF c r (b ||| 2 ^ (c p - 97).toNat) (p + 1) := if_pos (by rw [h1, decide_eq_true h2]; rfl)
theorem rsF_n {c : Nat → Int} {r b p : Nat} (h : ¬ (isl (c p) = true ∧ b / 2 ^ (c p - 97).toNat = 0)) : rsF c (r + 1) b p = (b, p) := if_neg (fun z => h (by
  rw [Bool.and_eq_true, decide_eq_true_eq] at z
  exact z))
theorem p2l {x : Int} (h : isl x = true) : 2 ^ (x - 97).toNat < 256 := by
  have := isl_i.mp h
  have h2 := p2_le (show (x - 97).toNat ≤ 7 by omega)
  omega
theorem rsF_b (c : Nat → Int) (B : Nat) (hc : ∀ i, B ≤ i → c i = -1) : ∀ r b p, b < 256 → p ≤ B → (rsF c r b p).1 < 256 ∧ p ≤ (rsF c r b p).2 ∧ (rsF c r b p).2 ≤ B ∧ b ≤ (rsF c r b p).1
  | 0, b, p, hb, hp => ⟨hb, Nat.le_refl p, hp, Nat.le_refl b⟩
  | r + 1, b, p, hb, hp => by
    by_cases h : isl (c p) = true ∧ b / 2 ^ (c p - 97).toNat = 0
    · rw [rsF_y h.1 h.2]
      have hpB : p < B := by
        rcases Nat.lt_or_ge p B with z | z
        · exact z
        · have := isl_i.mp h.1
          rw [hc p z] at this
          omega
      obtain ⟨a1, a2, a3, a4⟩ := rsF_b c B hc r (b ||| 2 ^ (c p - 97).toNat) (p + 1) (Nat.or_lt_two_pow (n := 8) hb (p2l h.1)) (by omega)
      exact ⟨a1, by omega, a3, Nat.le_trans Nat.left_le_or a4⟩
    · rw [rsF_n h]
      exact ⟨hb, Nat.le_refl p, hp, Nat.le_refl b⟩
theorem rsF_p {c : Nat → Int} {B : Nat} (hc : ∀ i, B ≤ i → c i = -1) {p : Nat} (h : isl (c p) = true) : 0 < (rsF c 8 0 p).1 ∧ p < (rsF c 8 0 p).2 := by
  rw [rsF_y h (Nat.zero_div _)]
  have hpB : p < B := by
    rcases Nat.lt_or_ge p B with z | z
    · exact z
    · have := isl_i.mp h
      rw [hc p z] at this
      omega
  have hz := Nat.zero_or (2 ^ (c p - 97).toNat)
  obtain ⟨a1, a2, a3, a4⟩ := rsF_b c B hc 7 (0 ||| 2 ^ (c p - 97).toNat) (p + 1) (by rw [hz]; exact p2l h) (by omega)
  have h2 := Nat.two_pow_pos (c p - 97).toNat
  rw [hz] at a4
  exact ⟨by rw [hz]; rw [hz] at a2; omega, by omega⟩
theorem TC_cg {μ μ' : jM} {t : List Nat} (h : TC μ t) (e1 : μ' 1 = μ 1) (e2 : μ' 2 = μ 2) : TC μ' t := ⟨h.1, h.2.1, by rw [e1]; exact h.2.2.1, by rw [e2]; exact h.2.2.2⟩
/-! ## the class's Reader -/
theorem kc_o (t : List Nat) : ∀ i, 76 ≤ i → tcb t 76 i = -1 := fun i h => tcb_o (by omega)
theorem c_X6_readDigit (d : Nat) {μ : jM} {t : List Nat} (ht : TC μ t) (p : Nat) (hp : μ 11 0 = (p : Int)) (h : isd (tcb t 76 p) = true) : CL (d + 2) 100 [jR 11, jR 1] μ = rI (tcb t 76 p - 48) (jup μ 11 0 ((p + 1 : Nat) : Int)) := by
  have h1 := isd_i.mp h
  have h2 := tcb_l (t := t) (B := 76) (i := p) (by omega)
  rw [e_X6_readDigit, hp, c_X10_atB _ ht, bI_r, hp, w_s _ (by omega), w_id (by omega) (by omega)]
theorem c_X6_readStuffs_1 (d : Nat) {t : List Nat} : ∀ (r k b p : Nat) (μ : jM), k + r = 8 → b < 256 → TC μ t → μ 11 0 = (p : Int) → EV (d + 1) T_X6_readStuffs 1 [some (jR 11), some (jR 1), some (jI b), some (jI k), none] [] μ = rI ((rsF (tcb t 76) r b p).1 : Nat) (jup μ 11 0 ((rsF (tcb t 76) r b p).2 : Nat))
  | 0, k, b, p, μ, hk, hb, ht, hp => by
    rw [e_X6_readStuffs_1, if_neg (by omega)]
    show rI _ μ = rI _ (jup μ 11 0 (p : Int))
    rw [jup_id hp]
    rfl
  | r + 1, k, b, p, μ, hk, hb, ht, hp => by
    have hcb := tcb_b ht.2.1 76 p
    have stay : rI (b : Nat) μ = rI ((b, p) : Nat × Nat).1 (jup μ 11 0 (((b, p) : Nat × Nat).2 : Nat)) := by
      rw [jup_id hp]
    rw [e_X6_readStuffs_1, if_pos (by omega), hp, c_X10_atB _ ht, bI_r, w_id (x := tcb t 76 p - 97) (by omega) (by omega)]
    by_cases hl : isl (tcb t 76 p) = true
    · have h1 := isl_i.mp hl
      have h2 := tcb_l (t := t) (B := 76) (i := p) (by omega)
      obtain ⟨x, hx⟩ : ∃ x : Nat, tcb t 76 p - 97 = (x : Int) := Int.eq_ofNat_of_zero_le (by omega)
      have hx8 : x < 8 := by omega
      have hxn : (tcb t 76 p - 97).toNat = x := by omega
      have hx' : tcb t 76 p - 97 = (x : Int) := hx
      have hpx := p2_le (show x ≤ 7 by omega)
      rw [hx', if_neg (by omega), if_pos (by omega), shr_n b x (by omega) (by omega)]
      by_cases hb0 : b / 2 ^ x = 0
      · rw [if_pos (by omega), shl_1 x (by omega), or_nn _ _ (by omega) (by omega), w_s k (by omega), hp, w_s p (by omega), c_X6_readStuffs_1 d r (k + 1) (b ||| 2 ^ x) (p + 1) _ (by omega) (Nat.or_lt_two_pow (n := 8) hb (by omega)) (TC_cg ht (jup_ne (by decide)) (jup_ne (by decide))) (jup_r _ _ _ _), rsF_y hl (by rw [hxn]; exact hb0), hxn, jup_jup]
      · rw [if_neg (by omega), rsF_n (fun z => hb0 (by have := z.2; rwa [hxn] at this))]
        exact stay
    · have h1 := isl_n.mp (by simpa using hl)
      rw [rsF_n (fun z => hl z.1)]
      by_cases h0 : tcb t 76 p - 97 < 0
      · rw [if_pos h0]
        exact stay
      · rw [if_neg h0, if_neg (by omega)]
        exact stay
theorem c_X6_readStuffs (d : Nat) {t : List Nat} (p : Nat) {μ : jM} (ht : TC μ t) (hp : μ 11 0 = (p : Int)) : CL (d + 2) 101 [jR 11, jR 1] μ = rI ((rsF (tcb t 76) 8 0 p).1 : Nat) (jup μ 11 0 ((rsF (tcb t 76) 8 0 p).2 : Nat)) := by
  rw [e_X6_readStuffs]
  exact c_X6_readStuffs_1 d 8 0 0 p μ rfl (by decide) ht hp
/-! ## a LINE -/
def kaD (k : Kt) (s co he ho : Nat) : Kt := (kn k + 1, kg k, fun d => if d = kn k then s else kst k d, fun d => if d = kn k then co else kco k d, fun d => if d = kn k then he else khe k d, fun d => if d = kn k then ho else kho k d, klo k, kba k)
def kaG (k : Kt) (lo ba : Nat) : Kt := (kn k, kg k + 1, kst k, kco k, khe k, kho k, fun g => if g = kg k then lo else klo k g, fun g => if g = kg k then ba else kba k g)
def rq1 (c : Nat → Int) (p : Nat) : Nat := (rsF c 8 0 p).2
def rtwo (c : Nat → Int) (p : Nat) : Bool := isd (c (rq1 c p + 1))
def rq2 (c : Nat → Int) (p : Nat) : Nat := if rtwo c p then rq1 c p + 2 else rq1 c p + 1
def rco (c : Nat → Int) (p : Nat) : Nat := if rtwo c p then (10 * (c (rq1 c p) - 48) + (c (rq1 c p + 1) - 48)).toNat else (c (rq1 c p) - 48).toNat
def rhe (c : Nat → Int) (p : Nat) : Nat := if c (rq2 c p) = 72 then 1 else 0
def rq3 (c : Nat → Int) (p : Nat) : Nat := rq2 c p + rhe c p
def lnD (c : Nat → Int) (k : Kt) (p : Nat) : Nat ⊕ (Kt × Nat) :=
  if isd (c (rq1 c p)) then
    (if c (rq3 c p) = 43 then (if isd (c (rq3 c p + 1)) then Sum.inr (kaD k (rsF c 8 0 p).1 (rco c p) (rhe c p) (c (rq3 c p + 1) - 48).toNat, rq3 c p + 2) else Sum.inl (rq3 c p + 1))
    else Sum.inr (kaD k (rsF c 8 0 p).1 (rco c p) (rhe c p) 0, rq3 c p))
  else Sum.inl (rq1 c p)
def rg1 (c : Nat → Int) (p : Nat) : Nat := (rsF c 8 0 (p + 1)).2
def lnG (c : Nat → Int) (k : Kt) (p : Nat) : Nat ⊕ (Kt × Nat) :=
  if c (rg1 c p) = 45 then Sum.inr (kaG k (rsF c 8 0 (p + 1)).1 (rsF c 8 0 (rg1 c p + 1)).1, (rsF c 8 0 (rg1 c p + 1)).2) else Sum.inl (rg1 c p)
def lin (c : Nat → Int) (k : Kt) (p : Nat) : Nat ⊕ (Kt × Nat) :=
  if c p = 71 then (if kg k < 6 then lnG c k p else Sum.inl p)
  else if isl (c p) && decide (kn k < 10) then lnD c k p else Sum.inl p
/-- a kitchen and more -/
def ext (k0 k : Kt) : Prop := Kok k ∧ kn k0 ≤ kn k ∧ kg k0 ≤ kg k ∧ (∀ d, d < kn k0 → kst k d = kst k0 d ∧ kco k d = kco k0 d ∧ khe k d = khe k0 d ∧ kho k d = kho k0 d) ∧ ∀ g, g < kg k0 → klo k g = klo k0 g ∧ kba k g = kba k0 g
theorem ext_r {k : Kt} (h : Kok k) : ext k k := ⟨h, Nat.le_refl _, Nat.le_refl _, fun _ _ => ⟨rfl, rfl, rfl, rfl⟩, fun _ _ => ⟨rfl, rfl⟩⟩
theorem ext_D {k0 k : Kt} (h : ext k0 k) (hn : kn k < 10) {s co he ho : Nat} (h1 : 0 < s) (h2 : s < 256) (h3 : co ≤ 99) (h4 : he ≤ 1) (h5 : ho ≤ 9) : ext k0 (kaD k s co he ho) := by
  obtain ⟨⟨a1, a2, a3, a4⟩, b1, b2, b3, b4⟩ := h
  refine ⟨⟨by show kn k + 1 ≤ 10; omega, a2, fun d hd => ?_, a4⟩, by show kn k0 ≤ kn k + 1; omega, b2, fun d hd => ?_, b4⟩
  · have hd : d < kn k + 1 := hd
    show 0 < (if d = kn k then s else kst k d) ∧ (if d = kn k then s else kst k d) < 256 ∧ (if d = kn k then co else kco k d) ≤ 99 ∧ (if d = kn k then he else khe k d) ≤ 1 ∧ (if d = kn k then ho else kho k d) ≤ 9
    by_cases hz : d = kn k
    · rw [if_pos hz, if_pos hz, if_pos hz, if_pos hz]
      exact ⟨h1, h2, h3, h4, h5⟩
    · rw [if_neg hz, if_neg hz, if_neg hz, if_neg hz]
      exact a3 d (by omega)
  · have hz : d ≠ kn k := by omega
    show (if d = kn k then s else kst k d) = kst k0 d ∧ (if d = kn k then co else kco k d) = kco k0 d ∧ (if d = kn k then he else khe k d) = khe k0 d ∧ (if d = kn k then ho else kho k d) = kho k0 d
    rw [if_neg hz, if_neg hz, if_neg hz, if_neg hz]
    exact b3 d hd
theorem ext_G {k0 k : Kt} (h : ext k0 k) (hg : kg k < 6) {lo ba : Nat} (h1 : lo < 256) (h2 : ba < 256) : ext k0 (kaG k lo ba) := by
  obtain ⟨⟨a1, a2, a3, a4⟩, b1, b2, b3, b4⟩ := h
  refine ⟨⟨a1, by show kg k + 1 ≤ 6; omega, a3, fun g hd => ?_⟩, b1, by show kg k0 ≤ kg k + 1; omega, b3, fun g hd => ?_⟩
  · have hd : g < kg k + 1 := hd
    show (if g = kg k then lo else klo k g) < 256 ∧ (if g = kg k then ba else kba k g) < 256
    by_cases hz : g = kg k
    · rw [if_pos hz, if_pos hz]
      exact ⟨h1, h2⟩
    · rw [if_neg hz, if_neg hz]
      exact a4 g (by omega)
  · have hz : g ≠ kg k := by omega
    show (if g = kg k then lo else klo k g) = klo k0 g ∧ (if g = kg k then ba else kba k g) = kba k0 g
    rw [if_neg hz, if_neg hz]
    exact b4 g hd
/-- the whole text: where the first fault is, or the kitchen and how many LINES -/
def kpa (c : Nat → Int) (L : Nat) : Nat → Kt → Nat → Nat → Nat ⊕ (Kt × Nat)
  | 0, _, p, _ => Sum.inl p
  | r + 1, k, p, n => match lin c k p with
    | Sum.inl q => Sum.inl q
    | Sum.inr z => if c z.2 = 59 then kpa c L r z.1 (z.2 + 1) (n + 1) else if z.2 < L then Sum.inl z.2 else Sum.inr (z.1, n + 1)
def kiP (k : Kt) (t : List Nat) : Nat ⊕ (Kt × Nat) := if t.length = 0 then Sum.inr (k, 0) else kpa (tcb t 76) t.length 39 k 0 0
def kiA (k : Kt) (t : List Nat) : Int := match kiP k t with
  | Sum.inl q => -1 - (q : Int)
  | Sum.inr z => (z.2 : Int)
def kiK (k : Kt) (t : List Nat) : Kt := match kiP k t with
  | Sum.inl _ => k
  | Sum.inr z => z.1
/-- facts of a dish's LINE -/
theorem rp_b {c : Nat → Int} (hc : ∀ i, 76 ≤ i → c i = -1) {p : Nat} (hp : p ≤ 76) (h1 : isl (c p) = true) : p < rq1 c p ∧ rq1 c p ≤ 76 ∧ 0 < (rsF c 8 0 p).1 ∧ (rsF c 8 0 p).1 < 256 := by
  obtain ⟨a1, a2, a3, a4⟩ := rsF_b c 76 hc 8 0 p (by decide) hp
  obtain ⟨b1, b2⟩ := rsF_p (p := p) hc h1
  exact ⟨b2, a3, b1, a1⟩
theorem c_lt {c : Nat → Int} (hc : ∀ i, 76 ≤ i → c i = -1) {p : Nat} (h : c p ≠ -1) : p < 76 := by
  rcases Nat.lt_or_ge p 76 with z | z
  · exact z
  · exact absurd (hc p z) h
theorem rp_c {c : Nat → Int} (hc : ∀ i, 76 ≤ i → c i = -1) {p : Nat} (hd : isd (c (rq1 c p)) = true) : rq1 c p < rq2 c p ∧ rq2 c p ≤ 76 ∧ rq2 c p ≤ rq3 c p ∧ rq3 c p ≤ 76 ∧ rco c p ≤ 99 ∧ rhe c p ≤ 1 := by
  have h1 := isd_i.mp hd
  have l1 := c_lt hc (p := rq1 c p) (by omega)
  have k2 : rq1 c p < rq2 c p ∧ rq2 c p ≤ 76 ∧ rco c p ≤ 99 := by
    unfold rq2 rco
    cases h2 : rtwo c p with
    | true =>
      have h3 := isd_i.mp h2
      have l2 := c_lt hc (p := rq1 c p + 1) (by omega)
      rw [if_pos rfl, if_pos rfl]
      omega
    | false =>
      rw [if_neg (by decide), if_neg (by decide)]
      omega
  have k3 : rhe c p ≤ 1 ∧ rq3 c p ≤ 76 ∧ rq2 c p ≤ rq3 c p := by
    unfold rq3 rhe
    by_cases h : c (rq2 c p) = 72
    · have l3 := c_lt hc (p := rq2 c p) (by omega)
      rw [if_pos h]
      omega
    · rw [if_neg h]
      omega
  exact ⟨k2.1, k2.2.1, k3.2.2, k3.2.1, k2.2.2, k3.1⟩
theorem lin_ok {c : Nat → Int} (hc : ∀ i, 76 ≤ i → c i = -1) {k0 k : Kt} (hk : ext k0 k) {p : Nat} (hp : p ≤ 76) {z : Kt × Nat} (h : lin c k p = Sum.inr z) : ext k0 z.1 ∧ p + 2 ≤ z.2 ∧ z.2 ≤ 76 := by
  unfold lin at h
  by_cases hG : c p = 71
  · have l0 := c_lt hc (p := p) (by omega)
    rw [if_pos hG] at h
    by_cases hg : kg k < 6
    · rw [if_pos hg] at h
      unfold lnG at h
      obtain ⟨a1, a2, a3, -⟩ := rsF_b c 76 hc 8 0 (p + 1) (by decide) (by omega)
      have a2 : p + 1 ≤ rg1 c p := a2
      by_cases h45 : c (rg1 c p) = 45
      · have l1 := c_lt hc (p := rg1 c p) (by omega)
        obtain ⟨b1, b2, b3, -⟩ := rsF_b c 76 hc 8 0 (rg1 c p + 1) (by decide) (by omega)
        rw [if_pos h45] at h
        cases h
        exact ⟨ext_G hk hg a1 b1, by show p + 2 ≤ (rsF c 8 0 (rg1 c p + 1)).2; omega, b3⟩
      · rw [if_neg h45] at h
        cases h
    · rw [if_neg hg] at h
      cases h
  · rw [if_neg hG] at h
    by_cases hL : (isl (c p) && decide (kn k < 10)) = true
    · rw [if_pos hL] at h
      rw [Bool.and_eq_true, decide_eq_true_eq] at hL
      unfold lnD at h
      obtain ⟨a1, a2, a3, a4⟩ := rp_b hc hp hL.1
      by_cases hd : isd (c (rq1 c p)) = true
      · obtain ⟨b1, b2, b3, b4, b5, b6⟩ := rp_c hc hd
        rw [if_pos hd] at h
        by_cases h43 : c (rq3 c p) = 43
        · rw [if_pos h43] at h
          by_cases hd2 : isd (c (rq3 c p + 1)) = true
          · have h9 := isd_i.mp hd2
            have l3 := c_lt hc (p := rq3 c p + 1) (by omega)
            rw [if_pos hd2] at h
            cases h
            exact ⟨ext_D hk hL.2 a3 a4 b5 b6 (by omega), by show p + 2 ≤ rq3 c p + 2; omega, by show rq3 c p + 2 ≤ 76; omega⟩
          · rw [if_neg hd2] at h
            cases h
        · rw [if_neg h43] at h
          cases h
          exact ⟨ext_D hk hL.2 a3 a4 b5 b6 (by decide), by show p + 2 ≤ rq3 c p; omega, b4⟩
      · rw [if_neg hd] at h
        cases h
    · rw [if_neg hL] at h
      cases h
