/-! ## the parts of a kitchen: sets that are closed under sharing -/
def sbs (a b : Nat) : Prop := ∀ z, a.testBit z = true → b.testBit z = true
theorem sbs_or {a b c : Nat} (h1 : sbs a c) (h2 : sbs b c) : sbs (a ||| b) c := fun z hz => by
  rw [Nat.testBit_or, Bool.or_eq_true] at hz
  rcases hz with q | q
  · exact h1 z q
  · exact h2 z q
theorem sbs_l (a b : Nat) : sbs a (a ||| b) := fun z hz => by rw [Nat.testBit_or, hz]; rfl
theorem sbs_r (a b : Nat) : sbs b (a ||| b) := fun z hz => by rw [Nat.testBit_or, hz, Bool.or_true]
theorem sbs_t {a b c : Nat} (h1 : sbs a b) (h2 : sbs b c) : sbs a c := fun z hz => h2 z (h1 z hz)
theorem sbs_e {a b : Nat} (h1 : sbs a b) (h2 : sbs b a) : a = b := by
  apply Nat.eq_of_testBit_eq
  intro z
  apply Bool.eq_iff_iff.mpr
  exact ⟨h1 z, h2 z⟩
theorem sbs_p {n : Nat} (hn : n ≤ 12) : ∀ m a b, b < 2 ^ n → sbs a b → b - a ≤ m → pc a ≤ pc b ∧ (a ≠ b → pc a < pc b)
  | 0, a, b, hb, h, hm => by
    have hab : a = b := by
      have : a ||| b = b := Nat.eq_of_testBit_eq (fun z => by
        rw [Nat.testBit_or]
        cases ha : a.testBit z with
        | false => rfl
        | true => rw [h z ha]; rfl)
      have h2 := Nat.left_le_or (n := a) (m := b)
      omega
    rw [hab]
    exact ⟨Nat.le_refl _, fun z => absurd rfl z⟩
  | m + 1, a, b, hb, h, hm => by
    by_cases hab : a = b
    · rw [hab]
      exact ⟨Nat.le_refl _, fun z => absurd rfl z⟩
    · have hex : ∃ z, b.testBit z = true ∧ a.testBit z = false := by
        by_cases hq : ∀ z, b.testBit z = true → a.testBit z = true
        · exact absurd (sbs_e h hq) hab
        · obtain ⟨z, hz⟩ := Classical.not_forall.mp hq
          refine ⟨z, ?_⟩
          cases h1 : b.testBit z with
          | false => exact absurd (fun q => by rw [h1] at q; cases q) hz
          | true =>
            cases h2 : a.testBit z with
            | false => exact ⟨rfl, rfl⟩
            | true => exact absurd (fun _ => h2) hz
      obtain ⟨z, hz1, hz2⟩ := hex
      have hzn : z < n := by
        by_cases hz : z < n
        · exact hz
        · rw [tb_hi hb (by omega)] at hz1
          cases hz1
      have hlt := or_gt hz2
      have h3 : sbs (a ||| 2 ^ z) b := sbs_or h (fun y hy => by
        rw [Nat.testBit_two_pow, decide_eq_true_eq] at hy
        rw [← hy]
        exact hz1)
      have hle : a ≤ b := by
        have : a ||| b = b := Nat.eq_of_testBit_eq (fun z => by
          rw [Nat.testBit_or]
          cases ha : a.testBit z with
          | false => rfl
          | true => rw [h z ha]; rfl)
        have h2 := Nat.left_le_or (n := a) (m := b)
        omega
      have h4 := sbs_p hn m (a ||| 2 ^ z) b hb h3 (by omega)
      have h5 := pc_or1 hn (Nat.lt_of_le_of_lt hle hb) hzn hz2
      exact ⟨by omega, fun _ => by omega⟩
theorem ksh_lt2 (k : Kt) (sh x : Nat) : ksh k sh x < 2 ^ kn k := bm_lt _ _
def clo (k : Kt) (sh : Nat) (c : Nat) : Prop := ∀ y, y < kn k → c.testBit y = true → sbs (ksh k sh y) c
/-- one walk over all DISHES, what is there being taken in at once -/
def pas (k : Kt) (sh : Nat) (t : Nat) : Nat → Nat
  | 0 => t
  | y + 1 => if (pas k sh t y).testBit y then pas k sh t y ||| ksh k sh y else pas k sh t y
theorem pas_ge (k : Kt) (sh t : Nat) : ∀ y, sbs t (pas k sh t y)
  | 0 => fun _ h => h
  | y + 1 => by
    unfold pas
    split
    · exact sbs_t (pas_ge k sh t y) (sbs_l _ _)
    · exact pas_ge k sh t y
theorem pas_mono (k : Kt) (sh t : Nat) {y : Nat} : ∀ {z : Nat}, y ≤ z → sbs (pas k sh t y) (pas k sh t z)
  | 0, h => by
    rw [show y = 0 by omega]
    exact fun _ h => h
  | z + 1, h => by
    by_cases e : y = z + 1
    · rw [e]
      exact fun _ h => h
    · have ih := pas_mono k sh t (y := y) (z := z) (by omega)
      show sbs _ (if (pas k sh t z).testBit z then pas k sh t z ||| ksh k sh z else pas k sh t z)
      split
      · exact sbs_t ih (sbs_l _ _)
      · exact ih
theorem pas_in {k : Kt} {sh t c : Nat} (hc : clo k sh c) (h : sbs t c) : ∀ y, y ≤ kn k → sbs (pas k sh t y) c
  | 0, _ => h
  | y + 1, hy => by
    have ih := pas_in hc h y (by omega)
    unfold pas
    split
    · rename_i hb
      exact sbs_or ih (hc y (by omega) (ih y hb))
    · exact ih
theorem pas_lt {k : Kt} {sh t : Nat} (h : t < 2 ^ kn k) : ∀ y, pas k sh t y < 2 ^ kn k
  | 0 => h
  | y + 1 => by
    unfold pas
    split
    · exact Nat.or_lt_two_pow (pas_lt h y) (ksh_lt2 k sh y)
    · exact pas_lt h y
theorem pas_fix {k : Kt} {sh t : Nat} (h : pas k sh t (kn k) = t) : clo k sh t := fun y hy hb => by
  have h1 : (pas k sh t y).testBit y = true := pas_ge k sh t y y hb
  have h2 : pas k sh t (y + 1) = pas k sh t y ||| ksh k sh y := if_pos h1
  have h3 := pas_mono k sh t (show y + 1 ≤ kn k by omega)
  rw [h, h2] at h3
  exact sbs_t (sbs_r _ _) h3
def itr (k : Kt) (sh t : Nat) : Nat → Nat
  | 0 => t
  | i + 1 => pas k sh (itr k sh t i) (kn k)
theorem itr_lt {k : Kt} {sh t : Nat} (h : t < 2 ^ kn k) : ∀ i, itr k sh t i < 2 ^ kn k
  | 0 => h
  | i + 1 => pas_lt (itr_lt h i) _
theorem itr_ge (k : Kt) (sh t : Nat) : ∀ i, sbs t (itr k sh t i)
  | 0 => fun _ h => h
  | i + 1 => sbs_t (itr_ge k sh t i) (pas_ge k sh _ _)
theorem itr_in {k : Kt} {sh t c : Nat} (hc : clo k sh c) (h : sbs t c) : ∀ i, sbs (itr k sh t i) c
  | 0 => h
  | i + 1 => pas_in hc (itr_in hc h i) _ (Nat.le_refl _)
theorem itr_cl {k : Kt} (hk : Kok k) {sh t : Nat} (h : t < 2 ^ kn k) : ∀ i, clo k sh (itr k sh t i) ∨ pc t + i ≤ pc (itr k sh t i)
  | 0 => Or.inr (Nat.le_refl _)
  | i + 1 => by
    have h10 := hk.1
    have hlt := itr_lt (sh := sh) h i
    rcases itr_cl hk (sh := sh) h i with hc | hp
    · left
      have e : pas k sh (itr k sh t i) (kn k) = itr k sh t i := sbs_e (pas_in hc (fun _ h => h) _ (Nat.le_refl _)) (pas_ge k sh _ _)
      show clo k sh (pas k sh (itr k sh t i) (kn k))
      rw [e]
      exact hc
    · by_cases e : pas k sh (itr k sh t i) (kn k) = itr k sh t i
      · left
        show clo k sh (pas k sh (itr k sh t i) (kn k))
        rw [e]
        exact pas_fix e
      · right
        have := (sbs_p (n := kn k) (by omega) _ (itr k sh t i) (pas k sh (itr k sh t i) (kn k)) (pas_lt hlt _) (pas_ge k sh _ _) (Nat.le_refl _)).2 (fun z => e z.symm)
        show pc t + (i + 1) ≤ pc (pas k sh (itr k sh t i) (kn k))
        omega
/-- the part of a DISH -/
def cmp (k : Kt) (sh x : Nat) : Nat := itr k sh (2 ^ x) (kn k)
/-- the least closed set over another one -/
def LCl (k : Kt) (sh t c : Nat) : Prop := sbs t c ∧ clo k sh c ∧ ∀ e, clo k sh e → sbs t e → sbs c e
theorem LCl_u {k : Kt} {sh t c e : Nat} (h : LCl k sh t c) (h' : LCl k sh t e) : c = e := sbs_e (h.2.2 e h'.2.1 h'.1) (h'.2.2 c h.2.1 h.1)
theorem cmp_L {k : Kt} (hk : Kok k) (sh : Nat) {x : Nat} (hx : x < kn k) : LCl k sh (2 ^ x) (cmp k sh x) := by
  have h10 := hk.1
  have hlt : 2 ^ x < 2 ^ kn k := Nat.pow_lt_pow_right (by decide) hx
  refine ⟨itr_ge k sh _ _, ?_, fun e he h => itr_in he h _⟩
  rcases itr_cl hk (sh := sh) hlt (kn k) with h | h
  · exact h
  · have h2 := pc_le (itr_lt (sh := sh) hlt (kn k)) (by omega)
    have h3 : 0 < pc (2 ^ x) := pc_n0 (by have := p2_le h10; omega) (by have := Nat.two_pow_pos x; omega)
    omega
theorem cmp_lt {k : Kt} (sh : Nat) {x : Nat} (hx : x < kn k) : cmp k sh x < 2 ^ kn k := itr_lt (Nat.pow_lt_pow_right (by decide) hx) _
theorem cmp_x {k : Kt} (hk : Kok k) (sh : Nat) {x : Nat} (hx : x < kn k) : (cmp k sh x).testBit x = true := (cmp_L hk sh hx).1 x (by rw [Nat.testBit_two_pow]; simp)
def psn (k : Kt) (sh : Nat) : Nat → Nat
  | 0 => 0
  | x + 1 => if (psn k sh x).testBit x then psn k sh x else psn k sh x ||| cmp k sh x
def prw (k : Kt) (sh : Nat) : Nat → List Int
  | 0 => []
  | x + 1 => if (psn k sh x).testBit x then prw k sh x else prw k sh x ++ [(cmp k sh x : Int)]
theorem psn_lt {k : Kt} (sh : Nat) : ∀ x, x ≤ kn k → psn k sh x < 2 ^ kn k
  | 0, _ => Nat.two_pow_pos _
  | x + 1, h => by
    unfold psn
    split
    · exact psn_lt sh x (by omega)
    · exact Nat.or_lt_two_pow (psn_lt sh x (by omega)) (cmp_lt sh (by omega))
theorem prw_len (k : Kt) (sh : Nat) : ∀ x, (prw k sh x).length ≤ x
  | 0 => Nat.le_refl 0
  | x + 1 => by
    have := prw_len k sh x
    unfold prw
    split
    · omega
    · rw [List.length_append]
      show _ + 1 ≤ x + 1
      omega
theorem psn_all {k : Kt} (hk : Kok k) (sh : Nat) : ∀ x, x ≤ kn k → ∀ z, z < x → (psn k sh x).testBit z = true
  | 0, _, z, hz => absurd hz (Nat.not_lt_zero z)
  | x + 1, h, z, hz => by
    unfold psn
    by_cases hzx : z = x
    · split
      · rename_i hb
        rw [hzx]
        exact hb
      · rw [hzx, Nat.testBit_or, cmp_x hk sh (by omega), Bool.or_true]
    · have ih := psn_all hk sh x (by omega) z (by omega)
      split
      · exact ih
      · rw [Nat.testBit_or, ih]
        rfl
/-! ### the class -/
theorem c_X1_partOf (d : Nat) {μ : jM} {k : Kt} (hk : KI μ k) (x sh : Nat) (hx : x < kn k) (hs : sh < 100) : CL (d + 4) 33 [jR 3, jI x, jI sh] μ = rI (cmp k sh x : Nat) μ := by
  have h10 := hk.1.1
  have hN := p2_le h10
  have hlt : 2 ^ x < 2 ^ kn k := Nat.pow_lt_pow_right (by decide) hx
  have dn : μ 3 7 = (kn k : Int) := hk.2.1
  have pass : ∀ (t : Nat) (i : Int), t < 2 ^ kn k → EV (d + 3) T_X1_partOf 2 [some (jR 3), none, some (jI sh), some (jI t), some (jI i), some (jI 0)] [] μ = EV (d + 3) T_X1_partOf 2 [some (jR 3), none, some (jI sh), some (jI (pas k sh t (kn k) : Nat)), some (jI i), some (jI (kn k))] [] μ := fun t i ht => by
    refine lp_0 (fun y : Nat => EV (d + 3) T_X1_partOf 2 [some (jR 3), none, some (jI sh), some (jI (pas k sh t y : Nat)), some (jI i), some (jI y)] [] μ) (kn k) (fun y hy => ?_)
    have hp := pas_lt (sh := sh) ht y
    have hq := ksh_lt2 k sh y
    have e : pas k sh t (y + 1) = if (pas k sh t y).testBit y then pas k sh t y ||| ksh k sh y else pas k sh t y := rfl
    have or0 := or_nn (pas k sh t y) 0 (by omega) (by omega)
    rw [e_X1_partOf_2, dn, if_pos (by omega), tb_1 _ y (by omega) (by omega), w_s y (by omega), e]
    cases (pas k sh t y).testBit y with
    | false =>
      rw [if_neg (show ¬ (if false = true then (1 : Int) else 0) = 1 by decide), if_neg (by decide)]
      rw [Nat.or_zero] at or0
      rw [show jor ((pas k sh t y : Nat) : Int) 0 = ((pas k sh t y : Nat) : Int) from or0]
    | true => rw [if_pos (show (if true = true then (1 : Int) else 0) = 1 from rfl), if_pos rfl, c_X1_sharing _ hk y sh hy hs, bI_r, or_nn _ _ (by omega) (by omega)]
  have run := lp_0 (fun i : Nat => EV (d + 3) T_X1_partOf 1 [some (jR 3), none, some (jI sh), some (jI (itr k sh (2 ^ x) i : Nat)), some (jI i), none] [] μ) (kn k) (fun i hi => by
    rw [e_X1_partOf_1, dn, if_pos (by omega), pass _ _ (itr_lt hlt i), e_X1_partOf_2, dn, if_neg (by omega), w_s i (by omega)]
    rfl)
  rw [e_X1_partOf, shl_1 x (by omega)]
  refine Eq.trans run ?_
  show EV (d + 3) T_X1_partOf 1 [some (jR 3), none, some (jI sh), some (jI (cmp k sh x : Nat)), some (jI (kn k)), none] [] μ = _
  rw [e_X1_partOf_1, dn, if_neg (by omega)]
theorem c_X11_parts (d : Nat) {μ : jM} {k : Kt} {w : Lw} (hk : KI μ k) (hw : LI μ 16 w) : ∃ μ', CL (d + 5) 174 [jR 0] μ = rI ((prw k (lsh w) (kn k)).length : Nat) μ' ∧ (∀ q, q ≠ 50 → q ≠ 51 → μ' q = μ q) ∧ RI μ' (prw k (lsh w) (kn k)) := by
  have h10 := hk.1.1
  have hN := p2_le h10
  have hsh := hw.2.1.1.2
  obtain ⟨μ1, e1, f1, r1⟩ := c_X7_clear (d + 3) (μ := μ)
  obtain ⟨μ2, e2, f2, r2⟩ := lp_i (fun (x : Nat) (m : jM) => EV (d + 4) T_X11_parts 1 [some (jR 0), some (jI (psn k (lsh w) x : Nat)), some (jI x), none] [] m) (fun x m => (∀ q, q ≠ 50 → q ≠ 51 → m q = μ q) ∧ RI m (prw k (lsh w) x)) (kn k) (fun x m hx h => by
    have fm : ∀ q, q ≠ 50 → q ≠ 51 → m q = μ q := h.1
    have rm : RI m (prw k (lsh w) x) := h.2
    have km : KI m k := KI_cg hk (fun q _ _ => fm q (by omega) (by omega))
    have wm : LI m 16 w := LI_cg hw (fm 16 (by decide) (by decide)) (fm 17 (by decide) (by decide))
    have hp := psn_lt (k := k) (lsh w) x (by omega)
    have hl := prw_len k (lsh w) x
    have ep : psn k (lsh w) (x + 1) = if (psn k (lsh w) x).testBit x then psn k (lsh w) x else psn k (lsh w) x ||| cmp k (lsh w) x := rfl
    have er : prw k (lsh w) (x + 1) = if (psn k (lsh w) x).testBit x then prw k (lsh w) x else prw k (lsh w) x ++ [(cmp k (lsh w) x : Int)] := rfl
    have dn : m 3 7 = (kn k : Int) := km.2.1
    show ∃ s', EV (d + 4) T_X11_parts 1 [some (jR 0), some (jI (psn k (lsh w) x : Nat)), some (jI x), none] [] m = EV (d + 4) T_X11_parts 1 [some (jR 0), some (jI (psn k (lsh w) (x + 1) : Nat)), some (jI (x + 1 : Nat)), none] [] s' ∧ (∀ q, q ≠ 50 → q ≠ 51 → s' q = μ q) ∧ RI s' (prw k (lsh w) (x + 1))
    rw [e_X11_parts_1, e_X1_dishes, dn, bI_r, if_pos (by omega), tb_1 _ x (by omega) (by omega), w_s x (by omega), ep, er]
    cases hb : (psn k (lsh w) x).testBit x with
    | true =>
      rw [z_t, if_pos rfl, if_pos rfl]
      exact ⟨m, rfl, fm, rm⟩
    | false =>
      obtain ⟨m2, g2, k2, l2⟩ := c_X7_add (d + 3) rm (cmp k (lsh w) x : Nat) (by omega)
      have hc := cmp_lt (k := k) (lsh w) hx
      rw [z_f, if_neg (by decide), if_neg (by decide), c_X2_share _ wm, bI_r, c_X1_partOf _ km x (lsh w) hx (by omega), bI_r, g2, bV_r, or_nn _ _ (by omega) (by omega)]
      exact ⟨m2, rfl, fun q a b => (k2 q a b).trans (fm q a b), l2⟩) μ1 ⟨f1, r1⟩
  have f2 : ∀ q, q ≠ 50 → q ≠ 51 → μ2 q = μ q := f2
  have r2 : RI μ2 (prw k (lsh w) (kn k)) := r2
  have dn : μ2 3 7 = (kn k : Int) := by rw [f2 3 (by decide) (by decide)]; exact hk.2.1
  refine ⟨μ2, ?_, f2, r2⟩
  rw [e_X11_parts, e1, bV_r]
  refine Eq.trans e2 ?_
  show EV (d + 4) T_X11_parts 1 [some (jR 0), some (jI (psn k (lsh w) (kn k) : Nat)), some (jI (kn k)), none] [] μ2 = _
  rw [e_X11_parts_1, e_X1_dishes, dn, bI_r, if_neg (by omega), c_X7_size _ r2, bI_r]
