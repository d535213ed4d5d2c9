/-! ## the reference: can it come to an end, and how -/
theorem z_f {α : Type} {a b : α} : (if (if false = true then (1 : Int) else 0) = 0 then a else b) = a := if_pos rfl
theorem z_t {α : Type} {a b : α} : (if (if true = true then (1 : Int) else 0) = 0 then a else b) = b := if_neg (by decide)
def ce (S : Nat → Nat → Nat → Bool) (E : Nat → Nat → Bool) (s l : Nat) : Bool := anb (fun r => cr S E r s l) 11
theorem SS_stt {k : Kt} (hk : Kok k) {w : Lw} {A : Ap} {s0 s l x : Nat} (hs : s < 2 ^ kn k) (h : SS k w A s0 s l x = true) : Stt k (s ||| 2 ^ x) x ∧ pc (s ||| 2 ^ x) = pc s + 1 := by
  obtain ⟨hx, -, -, hb⟩ := SS_i h
  have h10 := hk.1
  refine ⟨⟨or_lt hs hx, Or.inr hx, ?_⟩, pc_or1 (by omega) hs hx hb⟩
  unfold ist
  rw [if_neg (by omega)]
  simp [Nat.testBit_or, Nat.testBit_two_pow]
theorem cr_room {k : Kt} (hk : Kok k) {w : Lw} {A : Ap} {s0 : Nat} {E : Nat → Nat → Bool} : ∀ (r s l : Nat), s < 2 ^ kn k → cr (SS k w A s0) E r s l = true → pc s + r ≤ kn k
  | 0, s, l, hs, _ => by
    have h1 := hk.1
    have h2 := pc_le hs (by omega)
    omega
  | r + 1, s, l, hs, h => by
    rw [cr_s] at h
    obtain ⟨x, -, h2⟩ := anb_iff.mp h
    rw [Bool.and_eq_true] at h2
    obtain ⟨h3, h4⟩ := SS_stt hk hs h2.1
    have := cr_room hk r _ _ h3.1 h2.2
    omega
theorem cr_E {k : Kt} (hk : Kok k) {w : Lw} {A : Ap} {s0 : Nat} {E : Nat → Nat → Bool} : ∀ (r s l : Nat), Stt k s l → cr (SS k w A s0) E r s l = true → ∃ t m, Stt k t m ∧ E t m = true ∧ pc t = pc s + r
  | 0, s, l, hs, h => ⟨s, l, hs, h, rfl⟩
  | r + 1, s, l, hs, h => by
    rw [cr_s] at h
    obtain ⟨x, -, h2⟩ := anb_iff.mp h
    rw [Bool.and_eq_true] at h2
    obtain ⟨h3, h4⟩ := SS_stt hk hs.1 h2.1
    obtain ⟨t, m, h5, h6, h7⟩ := cr_E hk r _ _ h3 h2.2
    exact ⟨t, m, h5, h6, by omega⟩
theorem ce_s {k : Kt} (hk : Kok k) {w : Lw} {A : Ap} {s0 : Nat} {E : Nat → Nat → Bool} {s l : Nat} (hs : s < 2 ^ kn k) : ce (SS k w A s0) E s l = (E s l || anb (fun x => SS k w A s0 s l x && ce (SS k w A s0) E (s ||| 2 ^ x) x) (kn k)) := by
  have h10 := hk.1
  apply Bool.eq_iff_iff.mpr
  rw [Bool.or_eq_true, anb_iff]
  unfold ce
  constructor
  · intro h
    obtain ⟨r, hr, h2⟩ := anb_iff.mp h
    cases r with
    | zero => exact Or.inl h2
    | succ r =>
      rw [cr_s] at h2
      obtain ⟨x, -, h3⟩ := anb_iff.mp h2
      rw [Bool.and_eq_true] at h3
      exact Or.inr ⟨x, (SS_i h3.1).1, by rw [h3.1, Bool.true_and]; exact anb_iff.mpr ⟨r, by omega, h3.2⟩⟩
  · rintro (h | ⟨x, hx, h⟩)
    · exact anb_iff.mpr ⟨0, by decide, h⟩
    · rw [Bool.and_eq_true] at h
      obtain ⟨r, hr, h2⟩ := anb_iff.mp h.2
      obtain ⟨h3, h4⟩ := SS_stt hk hs h.1
      have := cr_room hk r _ _ h3.1 h2
      exact anb_iff.mpr ⟨r + 1, by omega, by rw [cr_s]; exact anb_iff.mpr ⟨x, by omega, by rw [h.1, h2]; rfl⟩⟩
/-- all ends are as long: then one is come to in so many -/
theorem ce_cr {k : Kt} (hk : Kok k) {w : Lw} {A : Ap} {s0 : Nat} {E : Nat → Nat → Bool} {M : Nat} (hM : ∀ s l, Stt k s l → E s l = true → pc s = M) {s l r : Nat} (hs : Stt k s l) (hr : pc s + r = M) : ce (SS k w A s0) E s l = cr (SS k w A s0) E r s l := by
  apply Bool.eq_iff_iff.mpr
  unfold ce
  constructor
  · intro h
    obtain ⟨r', h1, h2⟩ := anb_iff.mp h
    obtain ⟨t, m, h3, h4, h5⟩ := cr_E hk r' s l hs h2
    have := hM t m h3 h4
    have : r' = r := by omega
    rw [← this]
    exact h2
  · intro h
    have := cr_room hk r s l hs.1 h
    have h10 := hk.1
    exact anb_iff.mpr ⟨r, by omega, h⟩
theorem anb_mono {P : Nat → Bool} {n m : Nat} (h : n ≤ m) (ha : anb P n = true) : anb P m = true := by
  obtain ⟨i, h1, h2⟩ := anb_iff.mp ha
  exact anb_iff.mpr ⟨i, by omega, h2⟩
theorem c_X12_findEnds (d : Nat) {μ : jM} {k : Kt} {w : Lw} (hk : KR μ k) (hw : LR μ w) (sb : Nat) (hsb : sb < 1024) (s0 : Nat) {E : Nat → Nat → Bool} (hE : ∀ s l, Stt k s l → μ 83 ((11 * s + l : Nat) : Int) = if E s l then 1 else 0) : ∃ μ', CL (d + 5) 265 [jR 69, jI sb] μ = rV μ' ∧ (∀ q, q ≠ 84 → μ' q = μ q) ∧ ∀ s l, Stt k s l → μ' 84 ((11 * s + l : Nat) : Int) = if ce (SS k w (fun _ x => sb.testBit x) s0) E s l then 1 else 0 := by
  have hko := hk.1
  have h10 := hko.1
  have hN := p2_le h10
  let S := SS k w (fun _ x => sb.testBit x) s0
  have SSi : ∀ a l x, S a l x = (decide (x < kn k) && (sb.testBit x && may k w a l x)) := fun a l x => rfl
  have pics : ∀ μ1 : jM, (∀ q, q ≠ 84 → μ1 q = μ q) → KR μ1 k ∧ LR μ1 w := fun μ1 f => ⟨KR_cg hk (fun q _ _ => f q (by omega)) (by rw [f 69 (by decide)]) (by rw [f 69 (by decide)]), LR_cg hw (f 70 (by decide)) (by rw [f 69 (by decide)]) (by rw [f 69 (by decide)]) (by rw [f 69 (by decide)])⟩
  let J : Nat → Nat → jM → Prop := fun a j μ1 => (∀ q, q ≠ 84 → μ1 q = μ q) ∧ ∀ s l, Stt k s l → (a < s ∨ s = a ∧ ∃ j', j' < j ∧ l = lx j') → μ1 84 ((11 * s + l : Nat) : Int) = if ce S E s l then 1 else 0
  have l3 : ∀ a j, Stt k a (lx j) → j ≤ kn k → ∀ μ1, J a j μ1 → ∀ (r x : Nat), x + r = kn k → EV (d + 4) T_X12_findEnds 3 [some (jR 69), some (jI sb), some (jI a), some (jI ((j : Int) - 1)), some (jI (if E a (lx j) || anb (fun x => S a (lx j) x && ce S E (a ||| 2 ^ x) x) x then 1 else 0)), some (jI x)] [] μ1 = EV (d + 4) T_X12_findEnds 2 [some (jR 69), some (jI sb), some (jI a), some (jI (((j + 1 : Nat) : Int) - 1)), none, none] [] (jup μ1 84 ((11 * a + lx j : Nat) : Int) (if ce S E a (lx j) then 1 else 0)) := by
    intro a j hst hj μ1 hJ r
    have ha := hst.1
    have hjx := lx_le hj h10
    obtain ⟨hk1, hw1⟩ := pics μ1 hJ.1
    induction r with
    | zero =>
      intro x hx
      have hx2 : x = kn k := by omega
      subst hx2
      rw [e_X12_findEnds_3, hk1.2.1, if_neg (by omega), x_place _ _ a j (by omega) (by omega), bI_r, gd_t (by omega), x_inc _ (by omega), ← ce_s hko ha, gd_t (by split <;> omega)]
    | succ r ih =>
      intro x hx
      have h2x := p2_le (show x ≤ 10 by omega)
      have ih2 := ih (x + 1) (by omega)
      have hsx : anb (fun x => S a (lx j) x && ce S E (a ||| 2 ^ x) x) (x + 1) = (anb (fun x => S a (lx j) x && ce S E (a ||| 2 ^ x) x) x || (S a (lx j) x && ce S E (a ||| 2 ^ x) x)) := rfl
      rw [e_X12_findEnds_3, hk1.2.1, if_pos (by omega)]
      cases hc : (E a (lx j) || anb (fun x => S a (lx j) x && ce S E (a ||| 2 ^ x) x) x) with
      | true =>
        have hce : ce S E a (lx j) = true := by
          rw [ce_s hko ha, Bool.or_eq_true]
          rcases Bool.or_eq_true_iff.mp hc with z | z
          · exact Or.inl z
          · exact Or.inr (anb_mono (by omega) z)
        rw [if_pos rfl, if_neg (by decide), x_place _ _ a j (by omega) (by omega), bI_r, gd_t (by omega), x_inc _ (by omega), hce, gd_t (by decide)]
        rfl
      | false =>
        rw [hsx, ← Bool.or_assoc, hc, Bool.false_or] at ih2
        rw [z_f, c_X12_has _ _ sb x (by omega) (by omega), bI_r, w_s x (by omega)]
        have none' : (S a (lx j) x && ce S E (a ||| 2 ^ x) x) = false → EV (d + 4) T_X12_findEnds 3 [some (jR 69), some (jI sb), some (jI a), some (jI ((j : Int) - 1)), some (jI 0), some (jI (x + 1 : Nat))] [] μ1 = EV (d + 4) T_X12_findEnds 2 [some (jR 69), some (jI sb), some (jI a), some (jI (((j + 1 : Nat) : Int) - 1)), none, none] [] (jup μ1 84 ((11 * a + lx j : Nat) : Int) (if ce S E a (lx j) then 1 else 0)) := fun hz => by
          rw [hz] at ih2
          exact ih2
        cases hsb2 : sb.testBit x with
        | false =>
          refine (if_pos rfl).trans (none' ?_)
          rw [SSi, hsb2]
          simp
        | true =>
          rw [if_pos rfl, if_neg (by decide), x_may _ hk1 hw1 a j x (by omega) hst (by omega), bI_r]
          cases hmy : may k w a (lx j) x with
          | false =>
            refine (if_pos rfl).trans (none' ?_)
            rw [SSi, hmy]
            simp
          | true =>
            have hS : S a (lx j) x = true := by
              rw [SSi, hsb2, hmy]
              simp
              omega
            obtain ⟨hst2, -⟩ := SS_stt hko ha hS
            have hlt := hst2.1
            have hgt := or_gt (may_nb hmy)
            rw [if_pos rfl, if_neg (by decide), shl_1 _ (by omega), or_nn a _ (by omega) (by omega), d_place _ _ _ x (by omega) (by omega), bI_r, gd_t (by omega), hJ.2 _ _ hst2 (Or.inl hgt)]
            rw [hS, Bool.true_and] at ih2 none'
            cases hce : ce S E (a ||| 2 ^ x) x with
            | false =>
              rw [z_f]
              exact none' hce
            | true =>
              rw [if_pos rfl, if_neg (by decide)]
              rw [hce, if_pos rfl] at ih2
              exact ih2
  have l2 : ∀ a, a < 2 ^ kn k → ∀ μ1, J a 0 μ1 → ∃ μ2, EV (d + 4) T_X12_findEnds 2 [some (jR 69), some (jI sb), some (jI a), some (jI (-1)), none, none] [] μ1 = EV (d + 4) T_X12_findEnds 1 [some (jR 69), some (jI sb), some (jI ((a : Int) - 1)), none, none, none] [] μ2 ∧ J a (kn k + 1) μ2 := by
    intro a ha μ1 hJ
    obtain ⟨μ2, e2, j2⟩ := lp_i (fun (j : Nat) (μ1 : jM) => EV (d + 4) T_X12_findEnds 2 [some (jR 69), some (jI sb), some (jI a), some (jI ((j : Int) - 1)), none, none] [] μ1) (fun j μ1 => J a j μ1) (kn k + 1) (fun j μ1 hj hJ => by
      obtain ⟨hk1, hw1⟩ := pics μ1 hJ.1
      have hjx := lx_le (show j ≤ kn k by omega) h10
      show ∃ s', EV (d + 4) T_X12_findEnds 2 _ [] μ1 = _ ∧ _
      rw [e_X12_findEnds_2, hk1.2.1, if_pos (by omega), x_isState _ _ a j (by omega) (by omega), bI_r]
      cases hi : ist a (lx j) with
      | false =>
        rw [z_f, x_inc _ (by omega)]
        refine ⟨μ1, rfl, hJ.1, fun s l hs hc => hJ.2 s l hs ?_⟩
        rcases hc with z | ⟨z, j', z2, z3⟩
        · exact Or.inl z
        · refine Or.inr ⟨z, j', ?_, z3⟩
          by_cases hjj : j' = j
          · rw [hjj] at z3
            have h5 := hs.2.2
            rw [z, z3, hi] at h5
            cases h5
          · omega
      | true =>
        have hst : Stt k a (lx j) := ⟨ha, by unfold lx; split <;> omega, hi⟩
        have e := l3 a j hst (by omega) μ1 hJ (kn k) 0 (Nat.zero_add _)
        rw [if_pos rfl, if_neg (by decide), x_place _ _ a j (by omega) (by omega), bI_r, gd_t (by omega), hJ.1 83 (by decide), hE _ _ hst]
        have e0 : (E a (lx j) || anb (fun x => S a (lx j) x && ce S E (a ||| 2 ^ x) x) 0) = E a (lx j) := Bool.or_false _
        rw [e0] at e
        refine ⟨_, e, fun q hq => (jup_ne hq).trans (hJ.1 q hq), fun s l hs hc => ?_⟩
        have hl := Sok_10 hko (ist_S hko hs)
        rw [tab_up hjx hl]
        by_cases h1 : s = a ∧ l = lx j
        · rw [if_pos h1, h1.1, h1.2]
        · rw [if_neg h1]
          refine hJ.2 s l hs ?_
          rcases hc with z | ⟨z, j', z2, z3⟩
          · exact Or.inl z
          · refine Or.inr ⟨z, j', ?_, z3⟩
            by_cases hjj : j' = j
            · rw [hjj] at z3
              exact absurd ⟨z, z3⟩ h1
            · omega) μ1 hJ
    refine ⟨μ2, e2.trans ?_, j2⟩
    show EV (d + 4) T_X12_findEnds 2 _ [] μ2 = _
    obtain ⟨hk1, hw1⟩ := pics μ2 j2.1
    rw [e_X12_findEnds_2, hk1.2.1, if_neg (by omega), w_id (by omega) (by omega)]
    rfl
  obtain ⟨μ2, e2, j2⟩ := lp_j (fun (i : Nat) (μ1 : jM) => EV (d + 4) T_X12_findEnds 1 [some (jR 69), some (jI sb), some (jI ((i : Int) - 1)), none, none, none] [] μ1) (fun i μ1 => (∀ q, q ≠ 84 → μ1 q = μ q) ∧ ∀ s l, Stt k s l → i ≤ s → μ1 84 ((11 * s + l : Nat) : Int) = if ce S E s l then 1 else 0) (2 ^ kn k) (fun a μ1 ha hI => by
    obtain ⟨μ2, e2, j2⟩ := l2 a ha μ1 ⟨hI.1, fun s l hs hc => hI.2 s l hs (by
      rcases hc with z | ⟨_, j', z2, _⟩
      · omega
      · omega)⟩
    refine ⟨μ2, Eq.trans ?_ e2, j2.1, fun s l hs hc => j2.2 s l hs ?_⟩
    · show EV (d + 4) T_X12_findEnds 1 _ [] μ1 = _
      have e1 : ((a + 1 : Nat) : Int) - 1 = (a : Int) := by omega
      rw [e1, e_X12_findEnds_1, if_neg (by omega)]
    · by_cases h1 : s = a
      · refine Or.inr ⟨h1, ?_⟩
        rcases hs.2.1 with z | z
        · exact ⟨0, by omega, by rw [z]; rfl⟩
        · exact ⟨l + 1, by omega, (lx_s l).symm⟩
      · exact Or.inl (by omega)) μ ⟨fun _ _ => rfl, fun s l hs hc => by have := hs.1; omega⟩
  have h2p := Nat.two_pow_pos (kn k)
  refine ⟨μ2, ?_, j2.1, fun s l hs => j2.2 s l hs (Nat.zero_le s)⟩
  rw [e_X12_findEnds, c_X12_all _ hk, bI_r]
  have e1 : ((2 ^ kn k - 1 : Nat) : Int) = ((2 ^ kn k : Nat) : Int) - 1 := by omega
  rw [e1]
  refine Eq.trans e2 ?_
  show EV (d + 4) T_X12_findEnds 1 [some (jR 69), some (jI sb), some (jI (-1)), none, none, none] [] μ2 = _
  rw [e_X12_findEnds_1, if_pos (by decide)]
theorem c_X12_tellWay (d : Nat) {μ : jM} {k : Kt} {w : Lw} (hk : KR μ k) (hw : LR μ w) (sb : Nat) (hsb : sb < 1024) (s0 : Nat) {E : Nat → Nat → Bool} (hE : ∀ s l, Stt k s l → μ 83 ((11 * s + l : Nat) : Int) = if E s l then 1 else 0) (hC : ∀ s l, Stt k s l → μ 84 ((11 * s + l : Nat) : Int) = if ce (SS k w (fun _ x => sb.testBit x) s0) E s l then 1 else 0) {M : Nat} (hM : ∀ s l, Stt k s l → E s l = true → pc s = M) : ∀ (r s l : Nat) (μ1 : jM) (ro : List Int), (∀ q, q ≠ 69 → q ≠ 81 → μ1 q = μ q) → (∀ j, j ≠ 19 → μ1 69 j = μ 69 j) → Stt k s l → pc s + r = M → cr (SS k w (fun _ x => sb.testBit x) s0) E r s l = true → RR μ1 ro → ro.length + r ≤ 16 → ∃ μ', EV (d + 4) T_X12_tellWay 1 [some (jR 69), none, none, some (jI sb), some (jI s), some (jI (lno l)), none] [] μ1 = rV μ' ∧ (∀ q, q ≠ 69 → q ≠ 81 → μ' q = μ q) ∧ (∀ j, j ≠ 19 → μ' 69 j = μ 69 j) ∧ RR μ' (ro ++ ri (pth (SS k w (fun _ x => sb.testBit x) s0) E r s l)) := by
  have hko := hk.1
  have h10 := hko.1
  have hN := p2_le h10
  let S := SS k w (fun _ x => sb.testBit x) s0
  have SSi : ∀ a l x, S a l x = (decide (x < kn k) && (sb.testBit x && may k w a l x)) := fun a l x => rfl
  intro r
  induction r with
  | zero =>
    intro s l μ1 ro f1 g1 hst hr hc hro hle
    have hl := Sok_10 hko (ist_S hko hst)
    have hs := hst.1
    refine ⟨μ1, ?_, f1, g1, by rw [show pth S E 0 s l = [] from rfl]; simpa [ri] using hro⟩
    rw [e_X12_tellWay_1, c_X12_place _ _ s l (by omega) hl, bI_r, gd_t (by omega), f1 83 (by decide) (by decide), hE _ _ hst, show E s l = true from hc]
    rfl
  | succ r ih =>
    intro s l μ1 ro f1 g1 hst hr hc hro hle
    have hS0 := ist_S hko hst
    have hl := Sok_10 hko hS0
    have hs := hst.1
    have hE0 : E s l = false := by
      cases he : E s l with
      | false => rfl
      | true => have := hM s l hst he; omega
    have hk1 : KR μ1 k := KR_cg hk (fun q _ _ => f1 q (by omega) (by omega)) (g1 1 (by decide)) (g1 6 (by decide))
    have hw1 : LR μ1 w := LR_cg hw (f1 70 (by decide) (by decide)) (g1 9 (by decide)) (g1 10 (by decide)) (g1 11 (by decide))
    let Pd : Nat → Bool := fun x => S s l x && cr S E r (s ||| 2 ^ x) x
    have ha : anb Pd 10 = true := hc
    have hfs := (fs_anb Pd 10).mpr ha
    obtain ⟨-, hf2, hf3⟩ := fs_spec Pd 10
    have hP := Bool.and_eq_true_iff.mp (hf3 hfs)
    have hfk := (SS_i hP.1).1
    have hstep : ∀ x : Nat, x < kn k → EV (d + 4) T_X12_tellWay 2 [some (jR 69), none, none, some (jI sb), some (jI s), some (jI (lno l)), some (jI x)] [] μ1 = if Pd x then bV (CL (d + 4) 209 [jR 69, jI x] μ1) (fun μ4 => EV (d + 4) T_X12_tellWay 1 [some (jR 69), none, none, some (jI sb), some (jI (s ||| 2 ^ x : Nat)), some (jI x), none] [] μ4) else EV (d + 4) T_X12_tellWay 2 [some (jR 69), none, none, some (jI sb), some (jI s), some (jI (lno l)), some (jI (x + 1 : Nat))] [] μ1 := by
      intro x hx
      have h2x := p2_le (show x ≤ 10 by omega)
      rw [e_X12_tellWay_2, c_X12_has _ _ sb x (by omega) (by omega), bI_r, w_s x (by omega)]
      show _ = if (S s l x && cr S E r (s ||| 2 ^ x) x) then _ else _
      cases hsx : sb.testBit x with
      | false =>
        have : S s l x = false := by rw [SSi, hsx]; simp
        rw [this]
        rfl
      | true =>
        rw [if_pos rfl, if_neg (by decide), c_X12_may _ hk1 hw1 s l x hs (Sok_l hS0) hx, bI_r]
        cases hmy : may k w s l x with
        | false =>
          have : S s l x = false := by rw [SSi, hmy]; simp
          rw [this]
          rfl
        | true =>
          have hS : S s l x = true := by
            rw [SSi, hsx, hmy]
            simp [hx]
          obtain ⟨hst2, hpc⟩ := SS_stt hko hs hS
          have hlt := hst2.1
          rw [if_pos rfl, if_neg (by decide), shl_1 _ (by omega), or_nn s _ (by omega) (by omega), d_place _ _ _ x (by omega) (by omega), bI_r, gd_t (by omega), f1 84 (by decide) (by decide), hC _ _ hst2, ce_cr hko hM hst2 (r := r) (by omega), hS, Bool.true_and]
          cases cr S E r (s ||| 2 ^ x) x <;> rfl
    obtain ⟨μ3, e3, f3, g3, r3⟩ := c_X12_tell (d + 3) hro ((fs Pd 10 : Nat) : Int) (by omega)
    obtain ⟨hst2, hpc⟩ := SS_stt hko hs hP.1
    obtain ⟨μ4, e4, f4, g4, r4⟩ := ih (s ||| 2 ^ fs Pd 10) (fs Pd 10) μ3 (ro ++ [((fs Pd 10 : Nat) : Int)]) (fun q h1 h2 => (f3 q h1 h2).trans (f1 q h1 h2)) (fun j hj => (g3 j hj).trans (g1 j hj)) hst2 (by omega) hP.2 r3 (by rw [List.length_append, List.length_singleton]; omega)
    rw [show lno (fs Pd 10) = ((fs Pd 10 : Nat) : Int) from if_neg (by omega)] at e4
    refine ⟨μ4, ?_, f4, g4, ?_⟩
    · rw [e_X12_tellWay_1, c_X12_place _ _ s l (by omega) hl, bI_r, gd_t (by omega), f1 83 (by decide) (by decide), hE _ _ hst, hE0, z_f]
      refine (lp_fs (fun x : Nat => EV (d + 4) T_X12_tellWay 2 [some (jR 69), none, none, some (jI sb), some (jI s), some (jI (lno l)), some (jI x)] [] μ1) Pd 10 (fun x hx hp hb => ?_)).trans ?_
      · have hxk : x < kn k := by
          by_cases hz : x < kn k
          · exact hz
          · have := hb (fs Pd 10) (by omega)
            rw [hf3 hfs] at this
            cases this
        rw [hstep x hxk, hp]
        rfl
      · rw [hstep _ hfk, hf3 hfs, if_pos rfl, e3, bV_r, e4]
    · have : ro ++ ri (pth S E (r + 1) s l) = (ro ++ [((fs Pd 10 : Nat) : Int)]) ++ ri (pth S E r (s ||| 2 ^ fs Pd 10) (fs Pd 10)) := by
        rw [List.append_assoc]
        rfl
      rw [this]
      exact r4
