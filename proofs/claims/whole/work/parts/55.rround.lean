/-! ## the reference: rounds -/
def ER (k : Kt) (w : Lw) (f m s x : Nat) : Bool := (x != 10 && (s.testBit x && x != f)) && (pc s == m && (ksh k (lsh w) f).testBit x)
theorem ER_GR {k : Kt} (hk : Kok k) {w : Lw} {f m : Nat} (hm : 3 ≤ m) (s x : Nat) (h : rr k w (A1 f) 0 10 s x = true) : ER k w f m s x = (GR k w f s x && decide (pc s = m)) := by
  have h10 := hk.1
  unfold ER GR
  rw [h, Bool.true_and]
  by_cases hp : pc s = m
  · have e1 : (pc s == m) = true := by simpa using hp
    rw [e1, decide_eq_true hp, decide_eq_true (show 3 ≤ pc s by omega), Bool.true_and, Bool.and_true, Bool.and_true]
    cases hs : (ksh k (lsh w) f).testBit x with
    | false => rw [Bool.and_false]
    | true =>
      have hxf : x ≠ f := fun z => by
        rw [z] at hs
        unfold ksh at hs
        rw [bm_tb] at hs
        simp at hs
      have hx : x < kn k := by
        by_cases hz : x < kn k
        · exact hz
        · have hb : ksh k (lsh w) f < 2 ^ kn k := bm_lt _ _
          rw [tb_hi hb (by omega)] at hs
          cases hs
      have hS := (rr_in hk (Sok_0 k) h).1
      have hbt : s.testBit x = true := by
        rcases hS.2 with z | z
        · omega
        · exact z.2
      have h9 : x ≠ 10 := by omega
      rw [hbt]
      simp [h9, hxf]
  · have e1 : (pc s == m) = false := by simpa using hp
    rw [e1, decide_eq_false hp]
    simp
theorem c_X12_round1 (d : Nat) {μ : jM} {k : Kt} {w : Lw} (hk : KR μ k) (hw : LR μ w) (f : Nat) (hf : f < kn k) (m : Nat) (hm : m ≤ 10) : ∃ μ', EV (d + 6) T_X12_round 3 [some (jR 69), some (jI m), some (jI f), some (jI 0), none] [] (jpre μ 83 (fun _ => 0) 11264) = EV (d + 6) T_X12_round 3 [some (jR 69), some (jI m), some (jI f), some (jI (2 ^ kn k : Nat)), none] [] μ' ∧ (∀ q, q ≠ 83 → μ' q = μ q) ∧ ∀ s x, Stt k s x → μ' 83 ((11 * s + x : Nat) : Int) = if ER k w f m s x then 1 else 0 := by
  have hko := hk.1
  have h10 := hko.1
  have hN := p2_le h10
  have hws := hw.1.1
  have hE10 : ∀ s, ER k w f m s 10 = false := fun s => rfl
  have t0 := TE_stay (by decide) (TE_0 μ 83 k hko (ER k w f m)) (fun _ => hE10 0)
  obtain ⟨μ', e1, f1, t1⟩ := lp_tab (fun (a : Nat) (μ1 : jM) => EV (d + 6) T_X12_round 3 [some (jR 69), some (jI m), some (jI f), some (jI a), none] [] μ1) (fun (a j : Nat) (μ1 : jM) => EV (d + 6) T_X12_round 4 [some (jR 69), some (jI m), some (jI f), some (jI a), some (jI j)] [] μ1) (2 ^ kn k) (kn k) (fun a j μ1 => (∀ q, q ≠ 83 → μ1 q = μ q) ∧ TE μ1 83 k (ER k w f m) a (j + 1)) (fun a μ1 ha hI => by
    have k1 : KR μ1 k := KR_cg hk (fun q _ _ => hI.1 q (by omega)) (by rw [hI.1 69 (by decide)]) (by rw [hI.1 69 (by decide)])
    show EV (d + 6) T_X12_round 3 _ [] μ1 = _
    rw [e_X12_round_3, c_X12_all _ k1, bI_r, if_neg (by omega)]
    rfl) (fun a j μ1 ha hj hI => by
    obtain ⟨f1, t1⟩ := hI
    have k1 : KR μ1 k := KR_cg hk (fun q _ _ => f1 q (by omega)) (by rw [f1 69 (by decide)]) (by rw [f1 69 (by decide)])
    have w1 : LR μ1 w := LR_cg hw (f1 70 (by decide)) (by rw [f1 69 (by decide)]) (by rw [f1 69 (by decide)]) (by rw [f1 69 (by decide)])
    have hpa := pc_le (n := 10) (show a < 2 ^ 10 by omega) (by decide)
    have ex : lx (j + 1) = j := lx_s j
    have stay : ER k w f m a j = false → TE μ1 83 k (ER k w f m) a (j + 1 + 1) := fun hz => TE_stay (by omega) t1 (fun _ => by rw [ex]; exact hz)
    have go : ER k w f m a j = true → TE (jup μ1 83 ((11 * a + j : Nat) : Int) 1) 83 k (ER k w f m) a (j + 1 + 1) := fun hz => by
      have := TE_up hko (j := j + 1) (by omega) t1 (v := 1) (by rw [ex, hz]; rfl)
      rw [ex] at this
      exact this
    show ∃ s', EV (d + 6) T_X12_round 4 _ [] μ1 = _ ∧ _
    rw [e_X12_round_4, k1.2.1, if_pos (by omega), c_X12_has _ _ a j (by omega) (by omega), bI_r, w_s j (by omega)]
    have hj10 : (j != 10) = true := by simp; omega
    cases h1 : a.testBit j with
    | false => exact ⟨μ1, if_pos rfl, f1, stay (by unfold ER; rw [h1]; simp)⟩
    | true =>
      rw [if_pos rfl, if_neg (by decide)]
      by_cases h2 : j = f
      · rw [if_pos (by omega)]
        exact ⟨μ1, rfl, f1, stay (by unfold ER; rw [h2]; simp)⟩
      · have hjf : (j != f) = true := by simpa using h2
        rw [if_neg (by omega), c_bc _ _ _ (by omega), bI_r]
        by_cases h3 : pc a = m
        · have e3 : (pc a == m) = true := by simpa using h3
          rw [if_pos (by omega), c_X12_shared _ k1 j f hj hf, bI_r, w1.2.1]
          have esh := ksh_tb k (lsh w) hj h2
          by_cases h4 : lsh w ≤ pc (kst k j &&& kst k f)
          · rw [if_neg (by omega), d_place _ _ a j (by omega) (by omega), bI_r, gd_t (by omega), gd_t (by decide)]
            exact ⟨_, rfl, fun q hq => (jup_ne hq).trans (f1 q hq), go (by unfold ER; rw [hj10, h1, hjf, e3, esh, decide_eq_true h4]; rfl)⟩
          · rw [if_pos (by omega)]
            exact ⟨μ1, rfl, f1, stay (by unfold ER; rw [esh, decide_eq_false h4]; simp)⟩
        · have e3 : (pc a == m) = false := by simpa using h3
          rw [if_neg (by omega)]
          exact ⟨μ1, rfl, f1, stay (by unfold ER; rw [e3]; simp)⟩) (fun a μ1 ha hI => by
    have k1 : KR μ1 k := KR_cg hk (fun q _ _ => hI.1 q (by omega)) (by rw [hI.1 69 (by decide)]) (by rw [hI.1 69 (by decide)])
    refine ⟨?_, hI.1, TE_stay (by decide) (TE_end hI.2) (fun _ => hE10 _)⟩
    show EV (d + 6) T_X12_round 4 _ [] μ1 = _
    rw [e_X12_round_4, k1.2.1, if_neg (by omega), w_s a (by omega)]) (jpre μ 83 (fun _ => 0) 11264) ⟨fun q hq => jpre_ne hq, t0⟩
  exact ⟨μ', e1, f1, fun s x hs => (t1 s x hs).1 (Or.inl hs.1)⟩
theorem c_X12_round (d : Nat) {μ : jM} {k : Kt} {w : Lw} {ro : List Int} (hk : KR μ k) (hw : LR μ w) (hro : RR μ ro) : ∃ μ', fRf μ' (jup μ 69 20 0) ∧ ((CL (d + 7) 280 [jR 69] μ = rI (-2) μ' ∧ (∀ f s x, f < kn k → GR k w f s x = false) ∧ RR μ' ro) ∨ ∃ M f row, CL (d + 7) 280 [jR 69] μ = rI ((M : Nat) : Int) μ' ∧ RoundP k w M f row ∧ RR μ' (ri row)) := by
  have hko := hk.1
  have h10 := hko.1
  have hN := p2_le h10
  let μ0 : jM := jup μ 69 20 0
  have hk0 : KR μ0 k := KR_cg hk (fun q _ _ => jup_ne (by omega)) (jup_m (by decide)) (jup_m (by decide))
  have hw0 : LR μ0 w := LR_cg hw (jup_ne (by decide)) (jup_m (by decide)) (jup_m (by decide)) (jup_m (by decide))
  have hro0 : RR μ0 ro := RR_cg hro (jup_ne (by decide)) (jup_m (by decide))
  -- is there one of a size
  have hok : ∀ f m, 3 ≤ m + 1 → (cr (SS k w (A1 f) 0) (ER k w f (m + 1)) (m + 1) 0 10 = true ↔ ∃ s x, GR k w f s x = true ∧ pc s = m + 1) := fun f m hm => by
    have e := crp_rr hko (w := w) (A := A1 f) (Sok_0 k) (G := ER k w f (m + 1)) (G' := fun s x => GR k w f s x && decide (pc s = m + 1)) (fun s x hs => ER_GR hko hm s x hs) (m + 1)
    rw [e.1]
    constructor
    · intro hc
      obtain ⟨t, x, h1, h2, h3⟩ := cr_rc hko (Sok_0 k) (m + 1) (by rw [rr_0]; simp) hc
      have h4 := Bool.and_eq_true_iff.mp h2
      exact ⟨t, x, h4.1, by simpa using h4.2⟩
    · rintro ⟨s, x, h1, h2⟩
      have h3 := (Bool.and_eq_true_iff.mp h1).1
      have hrc : rc k w (A1 f) 0 10 (m + 1) s x = true := by
        unfold rr at h3
        rw [h2, show pc 0 = 0 from rfl, Nat.sub_zero] at h3
        exact h3
      exact rc_cr hko (Sok_0 k) (m + 1) (r := 0) hrc (by
        show (GR k w f s x && decide (pc s = m + 1)) = true
        rw [h1, h2]
        simp)
  let Fin : Option jO → Prop := fun o => ∃ μ', fRf μ' μ0 ∧ ((o = rI (-2) μ' ∧ (∀ f s x, f < kn k → GR k w f s x = false) ∧ RR μ' ro) ∨ ∃ M f row, o = rI ((M : Nat) : Int) μ' ∧ RoundP k w M f row ∧ RR μ' (ri row))
  -- a size's firsts
  have l2 : ∀ m, 3 ≤ m + 1 → m + 1 ≤ kn k → (∀ f s x, f < kn k → GR k w f s x = true → pc s ≤ m + 1) → ∀ r f μ1, f + r = kn k → fRf μ1 μ0 → RR μ1 ro → (∀ f' s x, f' < f → GR k w f' s x = true → pc s < m + 1) → (Fin (EV (d + 6) T_X12_round 2 [some (jR 69), some (jI (m + 1 : Nat)), some (jI f), none, none] [] μ1)) ∨ ∃ μ2, EV (d + 6) T_X12_round 2 [some (jR 69), some (jI (m + 1 : Nat)), some (jI f), none, none] [] μ1 = EV (d + 6) T_X12_round 1 [some (jR 69), some (jI m), none, none, none] [] μ2 ∧ fRf μ2 μ0 ∧ RR μ2 ro ∧ ∀ f s x, f < kn k → GR k w f s x = true → pc s ≤ m := by
    intro m hm3 hmk hall r
    induction r with
    | zero =>
      intro f μ1 hf g1 r1 hb
      right
      have k1 := fRf_KR g1 hk0
      refine ⟨μ1, ?_, g1, r1, fun f' s x h1 h2 => by have := hb f' s x (by omega) h2; omega⟩
      rw [e_X12_round_2, k1.2.1, if_neg (by omega), w_id (by omega) (by omega)]
      have : ((m + 1 : Nat) : Int) + -1 = (m : Int) := by omega
      rw [this]
    | succ r ih =>
      intro f μ1 hf g1 r1 hb
      have k1 := fRf_KR g1 hk0
      have w1 := fRf_LR g1 hw0
      have hfk : f < kn k := by omega
      have en : ∀ d, CL (d + 1) 264 [jR 69] μ1 = rV (jpre μ1 83 (fun _ => 0) 11264) := fun d => c_X12_noEnds d μ1
      obtain ⟨μ2, e2, f2, t2⟩ := c_X12_round1 d k1 w1 f hfk (m + 1) (by omega)
      have g2 : fRf μ2 μ1 := fRf_q 83 (by omega) f2
      have k2 := fRf_KR g2 k1
      have w2 := fRf_LR g2 w1
      have r2 : RR μ2 ro := RR_cg r1 (f2 81 (by decide)) (by rw [f2 69 (by decide)])
      obtain ⟨μ3, e3, g3, -, -, r3⟩ := c_X12_tellFrom d k2 w2 t2 f m hfk (fun s x _ he => by
        have := (Bool.and_eq_true_iff.mp (Bool.and_eq_true_iff.mp he).2).1
        simpa using this) r2 ((m + 1 : Nat) : Int)
      have g30 := fRf_t (fRf_t g1 g2) g3
      have head : EV (d + 6) T_X12_round 2 [some (jR 69), some (jI (m + 1 : Nat)), some (jI f), none, none] [] μ1 = if cr (SS k w (A1 f) 0) (ER k w f (m + 1)) (m + 1) 0 10 then rI ((m + 1 : Nat) : Int) μ3 else EV (d + 6) T_X12_round 2 [some (jR 69), some (jI (m + 1 : Nat)), some (jI (f + 1 : Nat)), none, none] [] μ3 := by
        rw [e_X12_round_2, k1.2.1, if_pos (by omega), en, bV_r, e2, e_X12_round_3, c_X12_all _ k2, bI_r, if_pos (by have := Nat.two_pow_pos (kn k); omega), e3, bI_r, w_s f (by omega)]
        cases cr (SS k w (A1 f) 0) (ER k w f (m + 1)) (m + 1) 0 10 <;> rfl
      rw [head]
      cases hc : cr (SS k w (A1 f) 0) (ER k w f (m + 1)) (m + 1) 0 10 with
      | true =>
        rw [hc, if_pos rfl] at r3
        left
        have e5 := crp_rr hko (w := w) (A := A1 f) (Sok_0 k) (G := ER k w f (m + 1)) (G' := fun s x => GR k w f s x && decide (pc s = m + 1)) (fun s x hs => ER_GR hko hm3 s x hs) (m + 1)
        exact ⟨μ3, g30, Or.inr ⟨m + 1, f, _, if_pos rfl, ⟨hfk, (hok f m hm3).mp hc, hall, hb, e5.2 hc⟩, r3⟩⟩
      | false =>
        rw [if_neg (by decide)]
        rw [hc, if_neg (by decide)] at r3
        refine ih (f + 1) μ3 (by omega) g30 r3 (fun f' s x h1 h2 => ?_)
        by_cases h3 : f' = f
        · rw [h3] at h2
          have h4 := hall f s x hfk h2
          by_cases h5 : pc s = m + 1
          · have := (hok f m hm3).mpr ⟨s, x, h2, h5⟩
            rw [hc] at this
            cases this
          · omega
        · exact hb f' s x (by omega) h2
  have l1 : ∀ m μ1, m ≤ kn k → fRf μ1 μ0 → RR μ1 ro → (∀ f s x, f < kn k → GR k w f s x = true → pc s ≤ m) → Fin (EV (d + 6) T_X12_round 1 [some (jR 69), some (jI m), none, none, none] [] μ1) := by
    intro m
    induction m with
    | zero =>
      intro μ1 _ g1 r1 hall
      refine ⟨μ1, g1, Or.inl ⟨by rw [e_X12_round_1, if_pos (by omega)], fun f s x hf => ?_, r1⟩⟩
      cases hs : GR k w f s x with
      | false => rfl
      | true =>
        have h1 := hall f s x hf hs
        have := (Bool.and_eq_true_iff.mp (Bool.and_eq_true_iff.mp hs).2).2
        rw [decide_eq_true_eq] at this
        omega
    | succ m ih =>
      intro μ1 hmk g1 r1 hall
      by_cases h3 : m + 1 < 3
      · refine ⟨μ1, g1, Or.inl ⟨by rw [e_X12_round_1, if_pos (by omega)], fun f s x hf => ?_, r1⟩⟩
        cases hs : GR k w f s x with
        | false => rfl
        | true =>
          have h1 := hall f s x hf hs
          have := (Bool.and_eq_true_iff.mp (Bool.and_eq_true_iff.mp hs).2).2
          rw [decide_eq_true_eq] at this
          omega
      · rw [e_X12_round_1, if_neg (by omega)]
        rcases l2 m (by omega) hmk hall (kn k) 0 μ1 (Nat.zero_add _) g1 r1 (fun f' s x hf => absurd hf (Nat.not_lt_zero f')) with hd | ⟨μ2, e2, g2, r2, hall2⟩
        · exact hd
        · have e2 : EV (d + 6) T_X12_round 2 [some (jR 69), some (jI (m + 1 : Nat)), some (jI 0), none, none] [] μ1 = _ := e2
          rw [e2]
          exact ih μ2 (by omega) g2 r2 hall2
  have hd : jup μ 69 20 0 69 1 = (kn k : Int) := hk0.2.1
  rw [e_X12_round, hd]
  exact l1 (kn k) μ0 (Nat.le_refl _) (fRf_r μ0) hro0 (fun f s x hf hs => by
    have := (rr_st hko (Sok_0 k) (Bool.and_eq_true_iff.mp hs).1).1
    exact pc_le this (by omega))
