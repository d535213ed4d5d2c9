/-! ## a MENU laid down: the class -/
def tch (t : List Nat) (i : Nat) : Int := if i < t.length ∧ i < 10 then (t.getD i 0 : Int) else -1
theorem c_X10_at (d : Nat) {μ : jM} {t : List Nat} (ht : TC μ t) (i : Nat) : CL (d + 1) 143 [jR 1, jI i, jI 10] μ = rI (tch t i) μ := by
  obtain ⟨h1, h2, h3, h4⟩ := ht
  rw [e_X10_at, h3, if_neg (by omega)]
  unfold tch
  by_cases hi : i < t.length
  · rw [if_pos (by omega)]
    by_cases h10 : i < 10
    · rw [if_pos (by omega), gd_t (by omega), h4 i hi, if_pos ⟨hi, h10⟩]
    · rw [if_neg (by omega), if_neg (fun z => h10 z.2)]
  · rw [if_neg (by omega), if_neg (fun z => hi z.1)]
def mok (n : Nat) (c : Int) : Bool := decide (c = 63) || decide (65 ≤ c ∧ c < 65 + (n : Int))
/-- where the reading of a MENU ends -/
def mrb (k : Kt) (t : List Nat) : Nat := fs (fun i => !mok (kn k) (tch t i)) t.length
def mrl (t : List Nat) : List Nat := mkl t.length (fun i => if t.getD i 0 = 63 then 10 else t.getD i 0 - 65)
theorem mrb_le (k : Kt) (t : List Nat) : mrb k t ≤ t.length := (fs_spec _ _).1
theorem mrb_ok {k : Kt} {t : List Nat} (h : ¬ mrb k t < t.length) : ∀ i, i < t.length → mok (kn k) (tch t i) = true := fun i hi => by
  have h2 := (fs_spec (fun i => !mok (kn k) (tch t i)) t.length).2.1
  have h3 : mrb k t = t.length := by
    have := mrb_le k t
    omega
  have := h2 i (by show i < mrb k t; omega)
  simpa using this
theorem mrb_10 {k : Kt} {t : List Nat} (h : ¬ mrb k t < t.length) : t.length ≤ 10 := by
  by_cases q : t.length ≤ 10
  · exact q
  · have := mrb_ok h 10 (by omega)
    unfold tch at this
    rw [if_neg (by omega)] at this
    unfold mok at this
    simp at this
theorem mrb_c {k : Kt} (h10 : kn k ≤ 10) {t : List Nat} (h : ¬ mrb k t < t.length) {i : Nat} (hi : i < t.length) : t.getD i 0 = 63 ∨ 65 ≤ t.getD i 0 ∧ t.getD i 0 < 65 + kn k := by
  have h1 := mrb_10 h
  have := mrb_ok h i hi
  unfold tch at this
  rw [if_pos (by omega)] at this
  unfold mok at this
  rw [Bool.or_eq_true, decide_eq_true_eq, decide_eq_true_eq] at this
  omega
theorem mrl_ok {k : Kt} (h10 : kn k ≤ 10) {t : List Nat} (h : ¬ mrb k t < t.length) : Mok (kn k) (mrl t) := Mok_mkl (fun i hi => by
  rcases mrb_c h10 h hi with z | z
  · exact Or.inl (if_pos z)
  · rw [if_neg (by omega)]
    exact Or.inr (by omega))
def mnA (k : Kt) (t : List Nat) (x : Int) : Int := if 0 ≤ x ∧ x < 3 then (if mrb k t < t.length then -1 - (mrb k t : Int) else (t.length : Int)) else -100
def mnM (k : Kt) (t : List Nat) (M : Mn) (x : Int) : Mn := if (0 ≤ x ∧ x < 3) ∧ ¬ mrb k t < t.length then mput M x.toNat (mrl t) else M
theorem TC_0 {μ : jM} (_ : List Nat) : TC (jup μ 1 1 0) [] := ⟨by decide, fun c hc => (by cases hc), jup_r _ _ _ _, fun i hi => absurd hi (Nat.not_lt_zero i)⟩
theorem c_X4_read (d : Nat) {μ : jM} {k : Kt} {t : List Nat} {p : Nat} (h10 : kn k ≤ 10) (ht : TC μ t) (hp : isM p) (hp2 : p ≠ 23) : ∃ μ', CL (d + 2) 63 [jR p, jR 1, jI (kn k)] μ = rI (if mrb k t < t.length then -1 - (mrb k t : Int) else (t.length : Int)) μ' ∧ (∀ q, q ≠ p → q ≠ p + 1 → μ' q = μ q) ∧ (mrb k t < t.length → μ' = μ) ∧ (¬ mrb k t < t.length → MI μ' p (mrl t)) := by
  obtain ⟨k1, k2, k3, k4, k5, k6, k7⟩ := isM_f hp
  have hcap : mcap p = 10 := if_neg hp2
  have hp52 : 52 ≤ p := by rcases hp with z | z | z | z <;> omega
  have hl := ht.1
  have hle := mrb_le k t
  have run := lp_fs (fun i : Nat => EV (d + 1) T_X4_read 1 [some (jR p), some (jR 1), some (jI (kn k)), some (jI t.length), some (jI i), none] [] μ) (fun i => !mok (kn k) (tch t i)) t.length (fun i hi hP _ => by
    have hP : (!mok (kn k) (tch t i)) = false := hP
    rw [e_X4_read_1, if_pos (by omega), c_X10_at _ ht i, bI_r, w_s i (by omega), w_id (x := 65 + (kn k : Int)) (by omega) (by omega)]
    unfold mok at hP
    by_cases h63 : tch t i = 63
    · rw [if_pos h63]
    · rw [decide_eq_false h63, Bool.false_or] at hP
      have h65 : 65 ≤ tch t i ∧ tch t i < 65 + (kn k : Int) := by
        by_cases q : 65 ≤ tch t i ∧ tch t i < 65 + (kn k : Int)
        · exact q
        · rw [decide_eq_false q] at hP
          cases hP
      rw [if_neg h63, if_neg (by omega), if_pos (by omega)])
  have head : CL (d + 2) 63 [jR p, jR 1, jI (kn k)] μ = EV (d + 1) T_X4_read 1 [some (jR p), some (jR 1), some (jI (kn k)), some (jI t.length), some (jI (mrb k t)), none] [] μ := by
    rw [e_X4_read, e_X10_length, ht.2.2.1, bI_r]
    exact run
  rw [head]
  by_cases hb : mrb k t < t.length
  · have hP := (fs_spec (fun i => !mok (kn k) (tch t i)) t.length).2.2 hb
    have hP : (!mok (kn k) (tch t (mrb k t))) = true := hP
    unfold mok at hP
    rw [Bool.not_eq_true', Bool.or_eq_false_iff, decide_eq_false_iff_not, decide_eq_false_iff_not] at hP
    refine ⟨μ, ?_, fun _ _ _ => rfl, fun _ => rfl, fun z => absurd hb z⟩
    rw [e_X4_read_1, if_pos (by omega), c_X10_at _ ht _, bI_r, w_id (x := 65 + (kn k : Int)) (by omega) (by omega), if_neg hP.1, w_id (by omega) (by omega), if_pos hb]
    by_cases h65 : tch t (mrb k t) < 65
    · rw [if_pos h65]
    · rw [if_neg h65, if_neg (by omega)]
  · have hl10 := mrb_10 hb
    have heq : mrb k t = t.length := by omega
    obtain ⟨m, e1, f1, g1, a1⟩ := lp_i (fun (i : Nat) (m : jM) => EV (d + 1) T_X4_read 2 [some (jR p), some (jR 1), none, some (jI t.length), some (jI i), none] [] m) (fun i m => (∀ q, q ≠ p → q ≠ p + 1 → m q = μ q) ∧ m p 2 = (i : Int) ∧ ∀ j : Nat, j < i → m (p + 1) (j : Int) = lno ((mrl t).getD j 10)) t.length (fun i m hi h => by
      have fm : ∀ q, q ≠ p → q ≠ p + 1 → m q = μ q := h.1
      have gm : m p 2 = (i : Int) := h.2.1
      have am : ∀ j : Nat, j < i → m (p + 1) (j : Int) = lno ((mrl t).getD j 10) := h.2.2
      have tm : TC m t := ⟨ht.1, ht.2.1, by rw [fm 1 (by omega) (by omega)]; exact ht.2.2.1, by rw [fm 2 (by omega) (by omega)]; exact ht.2.2.2⟩
      have hch : tch t i = (t.getD i 0 : Int) := if_pos ⟨hi, by omega⟩
      have hgl : (mrl t).getD i 10 = if t.getD i 0 = 63 then 10 else t.getD i 0 - 65 := by
        unfold mrl
        rw [mkl_at, if_pos hi]
      have go : ∀ v : Int, v = lno ((mrl t).getD i 10) → (∀ q, q ≠ p → q ≠ p + 1 → jup (jup m (p + 1) (i : Int) v) p 2 ((i + 1 : Nat) : Int) q = μ q) ∧ jup (jup m (p + 1) (i : Int) v) p 2 ((i + 1 : Nat) : Int) p 2 = ((i + 1 : Nat) : Int) ∧ ∀ j : Nat, j < i + 1 → jup (jup m (p + 1) (i : Int) v) p 2 ((i + 1 : Nat) : Int) (p + 1) (j : Int) = lno ((mrl t).getD j 10) := fun v hv => ⟨fun q a b => (jup_ne a).trans ((jup_ne b).trans (fm q a b)), jup_r _ _ _ _, fun j hj => by
        rw [jup_ne (by omega)]
        by_cases hji : j = i
        · rw [hji, jup_r, hv]
        · rw [jup_m (by omega)]
          exact am j (by omega)⟩
      show ∃ s', EV (d + 1) T_X4_read 2 [some (jR p), some (jR 1), none, some (jI t.length), some (jI i), none] [] m = _ ∧ _
      rw [e_X4_read_2]
      simp only [cd_t k1, k2, cb_a k4, cd_t k4, k5, hcap]
      rw [if_pos (by omega), if_pos (by omega), c_X10_at _ tm i, bI_r, hch, w_s i (by omega)]
      have hc := mrb_c h10 hb hi
      by_cases h63 : t.getD i 0 = 63
      · rw [if_pos h63] at hgl
        rw [if_pos (by omega), gd_t (by omega), jup_ne (show p ≠ p + 1 by omega), gm, w_s i (by omega)]
        exact ⟨_, rfl, go (-1) (by rw [hgl]; rfl)⟩
      · rw [if_neg h63] at hgl
        rw [if_neg (by omega), gd_t (by omega), jup_ne (show p ≠ p + 1 by omega), gm, w_s i (by omega), w_id (by omega) (by omega)]
        refine ⟨_, rfl, go _ ?_⟩
        rw [hgl]
        unfold lno
        rw [if_neg (by omega)]
        omega) (jup μ p 2 0) ⟨fun q a _ => jup_ne a, jup_r _ _ _ _, fun j hj => absurd hj (Nat.not_lt_zero j)⟩
    have f1 : ∀ q, q ≠ p → q ≠ p + 1 → m q = μ q := f1
    have g1 : m p 2 = (t.length : Int) := g1
    have hml : (mrl t).length = t.length := mkl_len _ _
    refine ⟨m, ?_, f1, fun z => absurd z hb, fun _ => ⟨hp, by rw [hml, hcap]; exact hl10, by rw [hml]; exact g1, fun j hj => a1 j (by rw [hml] at hj; exact hj)⟩⟩
    rw [e_X4_read_1, heq, if_neg (by omega), cd_t k1, if_neg (by omega)]
    refine Eq.trans e1 ?_
    show EV (d + 1) T_X4_read 2 [some (jR p), some (jR 1), none, some (jI t.length), some (jI t.length), none] [] m = _
    rw [e_X4_read_2, if_neg (by omega), cd_t k1, g1]
theorem c_X11_menu (d : Nat) {μ : jM} {k : Kt} {M : Mn} {t : List Nat} (hk : KI μ k) (hM : MC μ M) (ht : TC μ t) (x : Int) : ∃ μ', CL (d + 3) 160 [jR 0, jI x] μ = rI (mnA k t x) μ' ∧ (∀ q, q ≠ 1 → (q < 52 ∨ 60 < q) → μ' q = μ q) ∧ MC μ' (mnM k t M x) ∧ TC μ' [] := by
  have h10 := hk.1.1
  rw [e_X11_menu]
  unfold mnA mnM
  by_cases hx : 0 ≤ x ∧ x < 3
  · obtain ⟨i, rfl⟩ := Int.eq_ofNat_of_zero_le hx.1
    have hi : i < 3 := by omega
    obtain ⟨m, e1, f1, g1, a1⟩ := c_X4_read d h10 ht (hM i hi).1 (by omega)
    rw [if_neg (by omega), if_pos (by omega), gd_t (by omega), e_X1_dishes, hk.2.1, bI_r, RF_22 i hi, cd_t (isM_f (hM i hi).1).1, e1, bI_r, e_X10_clear, bV_r, if_pos hx, Int.toNat_natCast]
    refine ⟨_, rfl, fun q a b => (jup_ne a).trans (f1 q (by omega) (by omega)), ?_, TC_0 t⟩
    by_cases hb : mrb k t < t.length
    · rw [if_neg (fun z => z.2 hb), g1 hb]
      exact MC_cg hM (fun q _ _ => jup_ne (by omega))
    · rw [if_pos ⟨hx, hb⟩]
      have := MC_put hM hi f1 (a1 hb)
      exact MC_cg this (fun q _ _ => jup_ne (by omega))
  · rw [if_neg (show ¬ (0 ≤ x ∧ x < 3) from hx), if_neg (show ¬ ((0 ≤ x ∧ x < 3) ∧ ¬ mrb k t < t.length) from fun z => hx z.1)]
    refine ⟨jup μ 1 1 0, ?_, fun q a _ => jup_ne a, MC_cg hM (fun q _ _ => jup_ne (by omega)), TC_0 t⟩
    by_cases h0 : x < 0
    · rw [if_pos h0, e_X10_clear, bV_r]
    · rw [if_neg h0, if_neg (by omega), e_X10_clear, bV_r]
