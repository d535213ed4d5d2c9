/-! ## the reference: from one to another -/
theorem X12_sall {k : Kt} (hk : Kok k) : 2 ^ kn k - 1 < 1024 := by
  have := p2_le hk.1
  have := Nat.two_pow_pos (kn k)
  omega
theorem Stt_1 {k : Kt} (hk : Kok k) {f : Nat} (hf : f < kn k) : Stt k (2 ^ f) f := by
  have h10 := hk.1
  refine ⟨Nat.pow_lt_pow_right (by decide) hf, Or.inr hf, ?_⟩
  unfold ist
  rw [if_neg (by omega), Nat.testBit_two_pow]
  simp
theorem pc_1 {f : Nat} (hf : f < 10) : pc (2 ^ f) = 1 := by
  have h : ∀ f, f < 10 → pc (2 ^ f) = 1 := by decide
  exact h f hf
theorem c_X12_tellFrom (d : Nat) {μ : jM} {k : Kt} {w : Lw} (hk : KR μ k) (hw : LR μ w) {E : Nat → Nat → Bool} (hE : ∀ s l, Stt k s l → μ 83 ((11 * s + l : Nat) : Int) = if E s l then 1 else 0) (f m : Nat) (hf : f < kn k) (hM : ∀ s l, Stt k s l → E s l = true → pc s = m + 1) {ro : List Int} (hro : RR μ ro) (x : Int) : ∃ μ', CL (d + 6) 271 [jR 69, jI f, jI x] μ = rI (if cr (SS k w (A1 f) 0) E (m + 1) 0 10 then 1 else 0) μ' ∧ fRf μ' μ ∧ μ' 85 = μ 85 ∧ μ' 83 = μ 83 ∧ RR μ' (if cr (SS k w (A1 f) 0) E (m + 1) 0 10 then ri (pth (SS k w (A1 f) 0) E (m + 1) 0 10) else ro) := by
  have hko := hk.1
  have h10 := hko.1
  have hN := p2_le h10
  have h2f := p2_le (show f ≤ 9 by omega)
  have hsb := X12_sall hko
  have eSS : SS k w (fun _ x => (2 ^ kn k - 1).testBit x) 0 = SS k w (fun _ _ => true) 0 := SS_A w sall_A 0
  obtain ⟨μ1, e1, f1, t1⟩ := c_X12_findEnds d hk hw _ hsb 0 hE
  rw [eSS] at t1
  have g1 : fRf μ1 μ := fRf_q 84 (by omega) f1
  have k1 := fRf_KR g1 hk
  have w1 := fRf_LR g1 hw
  have hst := Stt_1 hko hf
  have h8 := t1 _ _ hst
  rw [ce_cr hko hM hst (r := m) (by rw [pc_1 (by omega)]; omega)] at h8
  obtain ⟨c1, c2⟩ := A1_cr hko (w := w) hf (G := E) m
  have em : CL (d + 4) 262 [jR 69, jI 0, jI (-1), jI f] μ1 = rI (if may k w 0 10 f then 1 else 0) μ1 := c_X12_may d k1 w1 0 10 f (Nat.two_pow_pos _) (Or.inl rfl) hf
  have em := fun d => show CL (d + 4) 262 [jR 69, jI 0, jI (-1), jI f] μ1 = rI (if may k w 0 10 f then 1 else 0) μ1 from c_X12_may d k1 w1 0 10 f (Nat.two_pow_pos _) (Or.inl rfl) hf
  rw [e_X12_tellFrom, c_X12_all _ hk, bI_r, e1, bV_r, em, bI_r]
  cases hm : may k w 0 10 f with
  | false =>
    rw [hm, Bool.false_and] at c1
    refine ⟨μ1, ?_, g1, f1 85 (by decide), f1 83 (by decide), ?_⟩
    · rw [c1]
      rfl
    · rw [c1]
      exact RR_cg hro (f1 81 (by decide)) (by rw [f1 69 (by decide)])
  | true =>
    rw [hm, Bool.true_and] at c1
    rw [if_pos rfl, if_neg (by decide), shl_1 _ (by omega), d_place _ _ _ f (by omega) (by omega), bI_r, gd_t (by omega), h8]
    cases hc : cr (SS k w (fun _ _ => true) 0) E m (2 ^ f) f with
    | false =>
      rw [hc] at c1
      refine ⟨μ1, ?_, g1, f1 85 (by decide), f1 83 (by decide), ?_⟩
      · rw [c1]
        rfl
      · rw [c1]
        exact RR_cg hro (f1 81 (by decide)) (by rw [f1 69 (by decide)])
    | true =>
      rw [hc] at c1
      have hroom := cr_room hko m (2 ^ f) f hst.1 hc
      rw [pc_1 (by omega)] at hroom
      obtain ⟨μ3, e3, f3, g3, r3⟩ := c_X12_tell (d + 4) (RR_0 μ1) (f : Int) (by simp)
      have f31 : ∀ q, q ≠ 69 → q ≠ 81 → μ3 q = μ1 q := fun q h1 h2 => (f3 q h1 h2).trans (jup_ne h1)
      have g31 : fRf μ3 μ1 := ⟨fun q hq => f31 q (by omega) (by omega), fun j hj => (g3 j hj).trans (jup_m hj)⟩
      have k3 := fRf_KR g31 k1
      have w3 := fRf_LR g31 w1
      obtain ⟨μ4, e4, f4, g4, r4⟩ := c_X12_tellWay d k3 w3 _ hsb 0 (E := E) (fun s l hs => by
        rw [f31 83 (by decide) (by decide), f1 83 (by decide)]
        exact hE s l hs) (fun s l hs => by
        rw [f31 84 (by decide) (by decide), eSS]
        exact t1 s l hs) hM m (2 ^ f) f μ3 _ (fun _ _ _ => rfl) (fun _ _ => rfl) hst (by rw [pc_1 (by omega)]; omega) (by rw [eSS]; exact hc) r3 (by simp; omega)
      rw [eSS] at r4
      refine ⟨μ4, ?_, fRf_t (fRf_t g1 g31) ⟨fun q hq => f4 q (by omega) (by omega), g4⟩, ?_, ?_, ?_⟩
      · rw [c1, if_pos rfl, if_neg (by decide), e3, bV_r, c_X12_all _ k3, bI_r, e_X12_tellWay]
        rw [show lno f = ((f : Nat) : Int) from if_neg (by omega)] at e4
        rw [e4, bV_r, gd_t (by decide)]
      · rw [f4 85 (by decide) (by decide), f31 85 (by decide) (by decide), f1 85 (by decide)]
      · rw [f4 83 (by decide) (by decide), f31 83 (by decide) (by decide), f1 83 (by decide)]
      · rw [c1, if_pos rfl, c2 c1]
        exact r4
/-- the ends of a size -/
def EB (f l m s x : Nat) : Bool := (x == l && (s.testBit l && s.testBit f)) && (pc s == m && (f != l || m == 1))
theorem EB_GB {k : Kt} (hk : Kok k) {w : Lw} {f l m : Nat} (hl : l < kn k) (s x : Nat) (h : rr k w (A1 f) 0 10 s x = true) : (EB f l (m + 1) s x = (GB k w f l s x && decide (pc s = m + 1))) := by
  have h10 := hk.1
  unfold EB GB
  rw [h, Bool.true_and]
  by_cases hx : x = l
  · subst hx
    have hS := (rr_in hk (Sok_0 k) h).1
    have hb : s.testBit x = true := by
      rcases hS.2 with z | z
      · omega
      · exact z.2
    have hs0 : s ≠ 0 := fun z => by
      rw [z, Nat.zero_testBit] at hb
      cases hb
    have hp := pc_n0 (Nat.lt_of_lt_of_le hS.1 (p2_le h10)) hs0
    have h2 : rc k w (A1 f) 0 10 ((pc s - 1) + 1) s x = true := by
      unfold rr at h
      rw [show pc 0 = 0 from rfl, show pc s - 0 = (pc s - 1) + 1 by omega] at h
      exact h
    obtain ⟨i1, i2⟩ := A1_in hk _ _ _ h2
    rw [hb, i1]
    by_cases hm : pc s = m + 1
    · rw [hm]
      by_cases hfx : f = x
      · have := i2 hfx.symm
        have : m = 0 := by omega
        rw [this]
        simp
      · simp [hfx]
    · have : (pc s == m + 1) = false := by simpa using hm
      rw [this]
      simp [hm]
  · have : (x == l) = false := by simpa using hx
    rw [this]
    rfl
theorem has_pos {s x : Nat} (hs : s < 1024) (h : s.testBit x = true) : 0 < pc s := pc_n0 hs (fun z => by rw [z, Nat.zero_testBit] at h; cases h)
/-- a size in turn -/
theorem c_X12_between1 (d : Nat) {μ : jM} {k : Kt} {w : Lw} (hk : KR μ k) (f l : Nat) (hf : f < kn k) (hl : l < kn k) (y i : Int) (m : Nat) (hm : m + 1 ≤ 10) : ∃ μ', EV (d + 6) T_X12_betweenBy 2 [some (jR 69), some (jI f), some (jI l), some (jI y), some (jI i), some (jI (m + 1 : Nat)), some (jI 0)] [] (jpre μ 83 (fun _ => 0) 11264) = EV (d + 6) T_X12_betweenBy 2 [some (jR 69), some (jI f), some (jI l), some (jI y), some (jI i), some (jI (m + 1 : Nat)), some (jI (2 ^ kn k : Nat))] [] μ' ∧ (∀ q, q ≠ 83 → μ' q = μ q) ∧ ∀ s x, Stt k s x → μ' 83 ((11 * s + x : Nat) : Int) = if EB f l (m + 1) s x then 1 else 0 := by
  have hko := hk.1
  have h10 := hko.1
  have hN := p2_le h10
  obtain ⟨μ', e1, f1, t1⟩ := lp_i (fun (a : Nat) (μ1 : jM) => EV (d + 6) T_X12_betweenBy 2 [some (jR 69), some (jI f), some (jI l), some (jI y), some (jI i), some (jI (m + 1 : Nat)), some (jI a)] [] μ1) (fun a μ1 => (∀ q, q ≠ 83 → μ1 q = μ q) ∧ ∀ s x, Stt k s x → μ1 83 ((11 * s + x : Nat) : Int) = if decide (s < a) && EB f l (m + 1) s x then 1 else 0) (2 ^ kn k) (fun a μ1 ha hI => by
    obtain ⟨f1, t1⟩ := hI
    have k1 : KR μ1 k := KR_cg hk (fun q _ _ => f1 q (by omega)) (by rw [f1 69 (by decide)]) (by rw [f1 69 (by decide)])
    have hpa := pc_le (n := 10) (show a < 2 ^ 10 by omega) (by decide)
    show ∃ s', EV (d + 6) T_X12_betweenBy 2 _ [] μ1 = _ ∧ _
    rw [e_X12_betweenBy_2, c_X12_all _ k1, bI_r, if_neg (by omega), c_X12_has _ _ a l (by omega) (by omega), bI_r, w_s a (by omega)]
    have stay : EB f l (m + 1) a l = false → (∀ q, q ≠ 83 → μ1 q = μ q) ∧ ∀ s x, Stt k s x → μ1 83 ((11 * s + x : Nat) : Int) = if decide (s < a + 1) && EB f l (m + 1) s x then 1 else 0 := fun hz => ⟨f1, fun s x hs => by
      rw [t1 s x hs]
      by_cases h1 : s = a
      · have h2 : EB f l (m + 1) s x = false := by
          by_cases hx : x = l
          · rw [h1, hx]
            exact hz
          · unfold EB
            have : (x == l) = false := by simpa using hx
            rw [this]
            rfl
        rw [h2, Bool.and_false, Bool.and_false]
      · have : decide (s < a) = decide (s < a + 1) := decide_eq_decide.mpr (by omega)
        rw [this]⟩
    have go : EB f l (m + 1) a l = true → (∀ q, q ≠ 83 → jup μ1 83 ((11 * a + l : Nat) : Int) 1 q = μ q) ∧ ∀ s x, Stt k s x → jup μ1 83 ((11 * a + l : Nat) : Int) 1 83 ((11 * s + x : Nat) : Int) = if decide (s < a + 1) && EB f l (m + 1) s x then 1 else 0 := fun hz => ⟨fun q hq => (jup_ne hq).trans (f1 q hq), fun s x hs => by
      have hx := Sok_10 hko (ist_S hko hs)
      rw [tab_up (by omega) hx]
      by_cases h1 : s = a ∧ x = l
      · rw [if_pos h1, h1.1, h1.2, hz]
        simp
      · rw [if_neg h1, t1 s x hs]
        by_cases h2 : s = a
        · have h3 : EB f l (m + 1) s x = false := by
            unfold EB
            have : (x == l) = false := by
              simp
              exact fun z => h1 ⟨h2, z⟩
            rw [this]
            rfl
          rw [h3, Bool.and_false, Bool.and_false]
        · have : decide (s < a) = decide (s < a + 1) := decide_eq_decide.mpr (by omega)
          rw [this]⟩
    cases h1 : a.testBit l with
    | false => exact ⟨μ1, if_pos rfl, stay (by unfold EB; rw [h1]; simp)⟩
    | true =>
      rw [if_pos rfl, if_neg (by decide), c_X12_has _ _ a f (by omega) (by omega), bI_r]
      cases h2 : a.testBit f with
      | false => exact ⟨μ1, if_pos rfl, stay (by unfold EB; rw [h2]; simp)⟩
      | true =>
        rw [if_pos rfl, if_neg (by decide), c_bc _ _ _ (by omega), bI_r]
        by_cases h3 : pc a = m + 1
        · rw [if_pos (by omega)]
          by_cases h4 : f = l
          · rw [if_pos (by omega)]
            by_cases h5 : m = 0
            · rw [if_pos (by omega), d_place _ _ a l (by omega) (by omega), bI_r, gd_t (by omega), gd_t (by decide)]
              exact ⟨_, rfl, go (by unfold EB; rw [h1, h2, h3, h5]; simp)⟩
            · rw [if_neg (by omega)]
              exact ⟨μ1, rfl, stay (by unfold EB; rw [h4]; simp; omega)⟩
          · rw [if_neg (by omega), d_place _ _ a l (by omega) (by omega), bI_r, gd_t (by omega), gd_t (by decide)]
            exact ⟨_, rfl, go (by unfold EB; rw [h1, h2, h3]; simp [h4])⟩
        · rw [if_neg (by omega)]
          exact ⟨μ1, rfl, stay (by
            unfold EB
            have : (pc a == m + 1) = false := by simpa using h3
            rw [this]
            simp)⟩) (jpre μ 83 (fun _ => 0) 11264) ⟨fun q hq => jpre_ne hq, fun s x hs => by
    have h1 := hs.1
    have h3 := Sok_10 hko (ist_S hko hs)
    rw [show jpre μ 83 (fun _ => 0) 11264 83 ((11 * s + x : Nat) : Int) = 0 from jpre_lo (by omega)]
    simp⟩
  refine ⟨μ', e1, f1, fun s x hs => ?_⟩
  rw [t1 s x hs, decide_eq_true hs.1, Bool.true_and]
theorem c_X12_betweenBy (d : Nat) {μ : jM} {k : Kt} {w : Lw} {ro : List Int} (hk : KR μ k) (hw : LR μ w) (hro : RR μ ro) (f l : Nat) (hf : f < kn k) (hl : l < kn k) (y : Int) (v : Int) (hv : y = 0 ∧ v = -1 ∨ y = 1 ∧ v = 1) : ∃ μ', fRf μ' μ ∧ ((CL (d + 7) 272 [jR 69, jI f, jI l, jI y] μ = rI (-2) μ' ∧ (∀ s m, GB k w f l s m = false) ∧ RR μ' ro) ∨ ∃ m row, CL (d + 7) 272 [jR 69, jI f, jI l, jI y] μ = rI ((m : Nat) : Int) μ' ∧ BestP k w (A1 f) 0 10 (GB k w f l) (fun s => v * pc s) (v * (m : Nat)) m row ∧ RR μ' (ri row)) := by
  have hko := hk.1
  have h10 := hko.1
  have hN := p2_le h10
  let sz : Nat → Nat := fun i => if y = 0 then i + 1 else kn k - i
  have szb : ∀ i, i < kn k → 1 ≤ sz i ∧ sz i ≤ kn k := fun i hi => by
    show 1 ≤ (if y = 0 then i + 1 else kn k - i) ∧ (if y = 0 then i + 1 else kn k - i) ≤ kn k
    split <;> omega
  -- is there one of a size
  have hok : ∀ m, cr (SS k w (A1 f) 0) (EB f l (m + 1)) (m + 1) 0 10 = true ↔ ∃ s, GB k w f l s l = true ∧ pc s = m + 1 := fun m => by
    have e := crp_rr hko (w := w) (A := A1 f) (Sok_0 k) (G := EB f l (m + 1)) (G' := fun s x => GB k w f l s x && decide (pc s = m + 1)) (fun s x hs => EB_GB hko hl s x hs) (m + 1)
    rw [e.1]
    constructor
    · intro hc
      obtain ⟨t, x, h1, h2, h3⟩ := cr_rc hko (Sok_0 k) (m + 1) (by rw [rr_0]; simp) hc
      have h4 := Bool.and_eq_true_iff.mp h2
      have h5 := (Bool.and_eq_true_iff.mp h4.1).2
      have h6 : x = l := by simpa using h5
      rw [h6] at h4
      exact ⟨t, h4.1, by simpa using h4.2⟩
    · rintro ⟨s, h1, h2⟩
      have h3 := (Bool.and_eq_true_iff.mp h1).1
      have hrc : rc k w (A1 f) 0 10 (m + 1) s l = true := by
        unfold rr at h3
        rw [h2, show pc 0 = 0 from rfl, Nat.sub_zero] at h3
        exact h3
      exact rc_cr hko (Sok_0 k) (m + 1) (r := 0) hrc (by
        show (GB k w f l s l && decide (pc s = m + 1)) = true
        rw [h1, h2]
        simp)
  have hGp : ∀ s x, GB k w f l s x = true → x = l ∧ 1 ≤ pc s ∧ pc s ≤ kn k := fun s x hs => by
    have h1 := Bool.and_eq_true_iff.mp hs
    have hx : x = l := by simpa using h1.2
    have hS := (rr_in hko (Sok_0 k) h1.1).1
    refine ⟨hx, ?_, pc_le hS.1 (by omega)⟩
    rcases hS.2 with z | z
    · omega
    · exact has_pos (Nat.lt_of_lt_of_le hS.1 hN) z.2
  have key : ∀ r i μ1, i + r = kn k → fRf μ1 μ → RR μ1 ro → (∀ s m, GB k w f l s m = true → ∃ i', i ≤ i' ∧ i' < kn k ∧ pc s = sz i') → ∃ μ', fRf μ' μ ∧ ((EV (d + 6) T_X12_betweenBy 1 [some (jR 69), some (jI f), some (jI l), some (jI y), some (jI i), none, none] [] μ1 = rI (-2) μ' ∧ (∀ s m, GB k w f l s m = false) ∧ RR μ' ro) ∨ ∃ m row, EV (d + 6) T_X12_betweenBy 1 [some (jR 69), some (jI f), some (jI l), some (jI y), some (jI i), none, none] [] μ1 = rI ((m : Nat) : Int) μ' ∧ BestP k w (A1 f) 0 10 (GB k w f l) (fun s => v * pc s) (v * (m : Nat)) m row ∧ RR μ' (ri row)) := by
    intro r
    induction r with
    | zero =>
      intro i μ1 hi g1 r1 hno
      refine ⟨μ1, g1, Or.inl ⟨?_, fun s m => ?_, r1⟩⟩
      · rw [e_X12_betweenBy_1, (fRf_KR g1 hk).2.1, if_neg (by omega)]
      · cases hs : GB k w f l s m with
        | false => rfl
        | true =>
          obtain ⟨i', h1, h2, -⟩ := hno s m hs
          omega
    | succ r ih =>
      intro i μ1 hi g1 r1 hno
      have k1 := fRf_KR g1 hk
      have hil : i < kn k := by omega
      obtain ⟨z1, z2⟩ := szb i hil
      have en : ∀ d, CL (d + 1) 264 [jR 69] μ1 = rV (jpre μ1 83 (fun _ => 0) 11264) := fun d => c_X12_noEnds d μ1
      have em : (sz i - 1) + 1 = sz i := by omega
      obtain ⟨μ2, e2, f2, t2⟩ := c_X12_between1 d (w := w) k1 f l hf hl y i (sz i - 1) (by omega)
      rw [em] at e2
      have g2 : fRf μ2 μ1 := fRf_q 83 (by omega) f2
      have k2 := fRf_KR g2 k1
      have w2 := fRf_LR (fRf_t g1 g2) hw
      have r2 : RR μ2 ro := RR_cg r1 (f2 81 (by decide)) (by rw [f2 69 (by decide)])
      obtain ⟨μ3, e3, g3, -, -, r3⟩ := c_X12_tellFrom d k2 w2 t2 f (sz i - 1) hf (fun s x _ he => by
        have := (Bool.and_eq_true_iff.mp (Bool.and_eq_true_iff.mp he).2).1
        simpa using this) r2 ((sz i : Nat) : Int)
      have g30 := fRf_t (fRf_t g1 g2) g3
      have head : EV (d + 6) T_X12_betweenBy 1 [some (jR 69), some (jI f), some (jI l), some (jI y), some (jI i), none, none] [] μ1 = if cr (SS k w (A1 f) 0) (EB f l (sz i - 1 + 1)) (sz i - 1 + 1) 0 10 then rI ((sz i : Nat) : Int) μ3 else EV (d + 6) T_X12_betweenBy 1 [some (jR 69), some (jI f), some (jI l), some (jI y), some (jI (i + 1 : Nat)), none, none] [] μ3 := by
        have e4 : EV (d + 6) T_X12_betweenBy 2 [some (jR 69), some (jI f), some (jI l), some (jI y), some (jI i), some (jI (sz i : Nat)), some (jI 0)] [] (jpre μ1 83 (fun _ => 0) 11264) = if cr (SS k w (A1 f) 0) (EB f l (sz i - 1 + 1)) (sz i - 1 + 1) 0 10 then rI ((sz i : Nat) : Int) μ3 else EV (d + 6) T_X12_betweenBy 1 [some (jR 69), some (jI f), some (jI l), some (jI y), some (jI (i + 1 : Nat)), none, none] [] μ3 := by
          rw [e2, e_X12_betweenBy_2, c_X12_all _ k2, bI_r, if_pos (by have := Nat.two_pow_pos (kn k); omega), e3, bI_r, w_s i (by omega)]
          cases cr (SS k w (A1 f) 0) (EB f l (sz i - 1 + 1)) (sz i - 1 + 1) 0 10 <;> rfl
        rw [e_X12_betweenBy_1, k1.2.1, if_pos (by omega)]
        rcases hv with ⟨rfl, rfl⟩ | ⟨rfl, rfl⟩
        · rw [if_pos rfl, en, bV_r, w_s i (by omega)]
          exact e4
        · rw [if_neg (by decide), en, bV_r, w_id (by omega) (by omega)]
          have : ((kn k : Nat) : Int) - (i : Int) = ((sz i : Nat) : Int) := by
            show _ = ((if (1 : Int) = 0 then i + 1 else kn k - i : Nat) : Int)
            rw [if_neg (by decide)]
            omega
          rw [this]
          exact e4
      rw [head]
      cases hc : cr (SS k w (A1 f) 0) (EB f l (sz i - 1 + 1)) (sz i - 1 + 1) 0 10 with
      | true =>
        rw [hc, if_pos rfl] at r3
        refine ⟨μ3, g30, Or.inr ⟨sz i, _, if_pos rfl, ?_, r3⟩⟩
        obtain ⟨s, h1, h2⟩ := (hok (sz i - 1)).mp hc
        have e5 := crp_rr hko (w := w) (A := A1 f) (Sok_0 k) (G := EB f l (sz i - 1 + 1)) (G' := fun s x => GB k w f l s x && decide (v * (pc s : Int) = v * ((sz i : Nat) : Int))) (fun s x hs => by
          rw [EB_GB hko hl s x hs]
          congr 1
          apply decide_eq_decide.mpr
          rcases hv with ⟨-, rfl⟩ | ⟨-, rfl⟩ <;> omega) (sz i - 1 + 1)
        refine ⟨⟨s, l, h1, by show v * (pc s : Int) = _; rw [h2, em]⟩, fun t x ht => ?_, fun t x ht he => ?_, ?_⟩
        · obtain ⟨i', h3, h4, h5⟩ := hno t x ht
          show v * (pc t : Int) ≤ v * ((sz i : Nat) : Int)
          rw [h5]
          show v * ((if y = 0 then i' + 1 else kn k - i' : Nat) : Int) ≤ v * ((if y = 0 then i + 1 else kn k - i : Nat) : Int)
          rcases hv with ⟨rfl, rfl⟩ | ⟨rfl, rfl⟩
          · rw [if_pos rfl, if_pos rfl]
            omega
          · rw [if_neg (by decide), if_neg (by decide)]
            omega
        · have he : v * (pc t : Int) = v * ((sz i : Nat) : Int) := he
          rw [show pc 0 = 0 from rfl]
          rcases hv with ⟨-, rfl⟩ | ⟨-, rfl⟩ <;> omega
        · rw [e5.2 hc, em]
      | false =>
        rw [if_neg (by decide)]
        rw [hc, if_neg (by decide)] at r3
        refine ih (i + 1) μ3 (by omega) g30 r3 (fun s m hs => ?_)
        obtain ⟨i', h1, h2, h3⟩ := hno s m hs
        refine ⟨i', ?_, h2, h3⟩
        by_cases h4 : i' = i
        · have hml := (hGp s m hs).1
          rw [hml] at hs
          have := (hok (sz i - 1)).mpr ⟨s, hs, by rw [h3, h4, em]⟩
          rw [hc] at this
          cases this
        · omega
  have hd : ∀ d μ, KR μ k → CL (d + 2) 210 [jR 69, jI f] μ = rI 1 μ := fun d μ h => by
    rw [c_X12_isDish _ h, if_pos (by omega)]
  rw [e_X12_betweenBy, c_X12_isDish _ hk, if_pos (by omega), bI_r, if_neg (by decide), c_X12_isDish _ hk, if_pos (by omega), bI_r, if_neg (by decide)]
  exact key (kn k) 0 μ (Nat.zero_add _) (fRf_r μ) hro (fun s m hs => by
    obtain ⟨-, h1, h2⟩ := hGp s m hs
    by_cases hy : y = 0
    · refine ⟨pc s - 1, Nat.zero_le _, by omega, ?_⟩
      show pc s = if y = 0 then pc s - 1 + 1 else kn k - (pc s - 1)
      rw [if_pos hy]
      omega
    · refine ⟨kn k - pc s, Nat.zero_le _, by omega, ?_⟩
      show pc s = if y = 0 then kn k - pc s + 1 else kn k - (kn k - pc s)
      rw [if_neg hy]
      omega)
