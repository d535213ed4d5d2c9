/-! ## a DISH made: the class -/
abbrev aj (k : Kt) (w : Lw) : Nat → Nat → Bool := ajf w (kst k) (khe k)
abbrev ELk (k : Kt) (w : Lw) : Nat → Nat → Prop := ELf w (kst k) (khe k)
abbrev BLk (k : Kt) (w : Lw) : Nat → Nat → Prop := BL (ajf w (kst k) (khe k)) (lhe w = 1) (htf (khe k))
noncomputable def blB (k : Kt) (w : Lw) (s f : Nat) : Bool := @decide (BLk k w s f) (Classical.propDecidable _)
theorem blB_i {k : Kt} {w : Lw} {s f : Nat} : blB k w s f = true ↔ BLk k w s f := @decide_eq_true_iff _ (Classical.propDecidable _)
theorem aj_sym (w : Lw) (st he : Nat → Nat) (x y : Nat) : ajf w st he x y = ajf w st he y x := by
  have e : (he x == he y) = (he y == he x) := by
    by_cases h : he x = he y
    · rw [h]
    · have h1 : (he x == he y) = false := by simpa using h
      have h2 : (he y == he x) = false := by simpa using fun z : he y = he x => h z.symm
      rw [h1, h2]
  unfold ajf
  rw [Nat.and_comm, e]
theorem nr_aj {k : Kt} (hk : Kok k) (w : Lw) {x y : Nat} (hx : x < kn k) (hy : y < kn k) (hne : y ≠ x) : (nr k w x).testBit y = aj k w x y := by
  have h10 := hk.1
  have a1 := (hk.2.2.1 x hx).2.2.2.1
  have a2 := (hk.2.2.1 y hy).2.2.2.1
  have e : ((khe k y == 1) == (khe k x == 1)) = (khe k x == khe k y) := by
    rcases (show khe k x = 0 ∨ khe k x = 1 by omega) with z1 | z1 <;> rcases (show khe k y = 0 ∨ khe k y = 1 by omega) with z2 | z2 <;> rw [z1, z2] <;> rfl
  rw [nr_tb w (by omega), ksh_tb k _ hy hne, khot_tb k hy, khot_tb k hx, e, Nat.and_comm]
  rfl
theorem hcd_i {k : Kt} (hk : Kok k) (w : Lw) {s x : Nat} (hs : s < 2 ^ kn k) (hx : x < kn k) : hcd k w s x = true ↔ (lhe w = 1 → htf (khe k) x = false → ∀ y, s.testBit y = true → htf (khe k) y = false) := by
  have e : hcd k w s x = (!(lhe w == 1 && (s &&& khot k) != 0) || (khe k x == 1)) := by
    unfold hcd
    rw [khot_tb k hx]
  rw [e]
  constructor
  · intro h h1 h2 y hy
    have h2 : (khe k x == 1) = false := h2
    rw [h2, Bool.or_false, h1] at h
    have hz : s &&& khot k = 0 := by simpa using h
    have hyk : y < kn k := by
      cases Nat.lt_or_ge y (kn k) with
      | inl z => exact z
      | inr z =>
        rw [tb_hi hs z] at hy
        cases hy
    cases hq : htf (khe k) y with
    | false => rfl
    | true =>
      exact absurd ⟨hy, by rw [khot_tb k hyk]; exact hq⟩ (and_z.mp hz y)
  · intro h
    by_cases h1 : lhe w = 1
    · cases hx1 : (khe k x == 1) with
      | true => rw [Bool.or_true]
      | false =>
        have hz : s &&& khot k = 0 := and_z.mpr (fun i hi => by
          have hik : i < kn k := by
            cases Nat.lt_or_ge i (kn k) with
            | inl z => exact z
            | inr z =>
              rw [tb_hi hs z] at hi
              cases hi.1
          have := h h1 hx1 i hi.1
          have h2 := hi.2
          rw [khot_tb k hik] at h2
          have this : (khe k i == 1) = false := this
          rw [this] at h2
          cases h2)
        rw [hz]
        simp
    · have : (lhe w == 1) = false := by simpa using h1
      rw [this]
      rfl
theorem ful {n i : Nat} : (2 ^ n - 1).testBit i = true ↔ i < n := fullF n i
theorem sub_full {n s : Nat} (hs : s < 2 ^ n) : ∀ i, s.testBit i = true → (2 ^ n - 1).testBit i = true := fun i hi => by
  rw [ful]
  cases Nat.lt_or_ge i n with
  | inl z => exact z
  | inr z =>
    rw [tb_hi hs z] at hi
    cases hi
theorem nd_in {a x : Nat} (h : a.testBit x = false) : nd a (2 ^ x) = a := by
  apply Nat.eq_of_testBit_eq
  intro i
  rw [nd_tb, Nat.testBit_two_pow]
  by_cases hi : x = i
  · subst hi
    rw [h]
    rfl
  · simp [hi]
/-- the reached ones, where the stores let all be -/
theorem rr_EL {k : Kt} (hk : Kok k) {w : Lw} (hst : stk k w (2 ^ kn k - 1) = true) : ∀ N s : Nat, s < N → s < 2 ^ kn k → ∀ d, d < kn k → (rr k w (fun _ _ => true) 0 10 s d = true ↔ ELk k w s d)
  | 0, s, h, _, _, _ => absurd h (Nat.not_lt_zero s)
  | N + 1, s, hN, hs, d, hd => by
    have h10 := hk.1
    cases hb : s.testBit d with
    | false =>
      constructor
      · intro h
        rcases (rr_in hk (Sok_0 k) h).1.2 with z | z
        · omega
        · rw [hb] at z
          cases z.2
      · intro h
        rw [EL_in h] at hb
        cases hb
    | true =>
      obtain ⟨t, ht⟩ : ∃ t, t = nd s (2 ^ d) := ⟨_, rfl⟩
      have htd : t.testBit d = false := by rw [ht, nd_tb, Nat.testBit_two_pow]; simp
      have hts : t < s := by rw [ht]; exact nd_lt hb
      have e : s = t ||| 2 ^ d := by rw [ht]; exact (nd_or hb).symm
      have ht2 : t < 2 ^ kn k := by omega
      have hne : t ||| 2 ^ d ≠ 0 := by omega
      have ih := rr_EL hk hst N t (by omega) ht2
      have hstk : stk k w (t ||| 2 ^ d) = true := stk_mono (sub_full (by rw [← e]; exact hs)) hst
      rw [e, rr_s hk (Sok_0 k) ht2 hd htd hne]
      refine Iff.trans ?_ (EL_step (adj := ajf w (kst k) (khe k)) (h1 := lhe w = 1) (ht := htf (khe k)) htd).symm
      rw [← hcd_i hk w ht2 hd, anb_iff]
      have hm : ∀ l, (l = 10 ∨ l < kn k ∧ t.testBit l = true) → stp k w (fun _ _ => true) (pc t - pc 0) t l d = (hcd k w t d && (nr k w d).testBit l) := fun l hl => by
        unfold stp
        rw [may_eq hk w ht2 hl hd, htd, hstk, decide_eq_true hd]
        cases hcd k w t d <;> cases (nr k w d).testBit l <;> rfl
      constructor
      · rintro ⟨l, hl, h⟩
        rw [Bool.and_eq_true] at h
        obtain ⟨h1, h2⟩ := h
        have hS := (rr_in hk (Sok_0 k) h1).1
        rw [hm l (Sok_l hS), Bool.and_eq_true] at h2
        refine ⟨h2.1, ?_⟩
        rcases hS.2 with z | z
        · exact Or.inl z.2
        · have hld : l ≠ d := fun y => by
            rw [y, htd] at z
            cases z.2
          refine Or.inr ⟨l, (ih l z.1).mp h1, ?_⟩
          rw [aj_sym]
          show aj k w d l = true
          rw [← nr_aj hk w hd z.1 hld]
          exact h2.2
      · rintro ⟨h1, h2⟩
        rcases h2 with z | ⟨l, z1, z2⟩
        · refine ⟨10, by decide, ?_⟩
          rw [hm 10 (Or.inl rfl), h1, nr_10 hk, z, rr_0]
          rfl
        · have hlt := EL_in z1
          have hlk : l < kn k := by
            cases Nat.lt_or_ge l (kn k) with
            | inl z => exact z
            | inr z =>
              rw [tb_hi ht2 z] at hlt
              cases hlt
          have hld : l ≠ d := fun y => by
            rw [y, htd] at hlt
            cases hlt
          refine ⟨l, by omega, ?_⟩
          have z3 : aj k w d l = true := (aj_sym w (kst k) (khe k) d l).trans z2
          rw [hm l (Or.inr ⟨hlk, hlt⟩), h1, (ih l hlk).mpr z1, nr_aj hk w hd hlk hld, z3]
          rfl
theorem stk_stG {k : Kt} (hk : Kok k) (w : Lw) : stk k w (2 ^ kn k - 1) = true ↔ stG w (kst k) (kn k) := by
  have h10 := hk.1
  have e : ∀ u, pc (khs k u &&& (2 ^ kn k - 1)) = cnt (fun x => (kst k x).testBit u) (kn k) := fun u => by
    have h1 : khs k u &&& (2 ^ kn k - 1) = khs k u := Nat.eq_of_testBit_eq (fun i => by
      rw [Nat.testBit_and]
      cases hb : (khs k u).testBit i with
      | false => rfl
      | true => rw [sub_full (bm_lt _ _) i hb]; rfl)
    rw [h1]
    unfold khs
    rw [pc_cnt (n := kn k) (bm_lt _ _) (by omega)]
    refine cnt_cg (fun x hx => ?_)
    rw [bm_tb, decide_eq_true hx, Bool.true_and]
  unfold stk stG lmo
  constructor
  · intro h u hu
    have h2 : anb (fun u => decide (min (lti w) (lst w u) < pc (khs k u &&& (2 ^ kn k - 1)))) 8 = false := by simpa using h
    have h3 := anb_f h2 hu
    rw [e u] at h3
    have h3 := of_decide_eq_false h3
    omega
  · intro h
    have : anb (fun u => decide (min (lti w) (lst w u) < pc (khs k u &&& (2 ^ kn k - 1)))) 8 = false := by
      cases hz : anb (fun u => decide (min (lti w) (lst w u) < pc (khs k u &&& (2 ^ kn k - 1)))) 8 with
      | false => rfl
      | true =>
        obtain ⟨u, hu, hp⟩ := anb_iff.mp hz
        have hp := of_decide_eq_true hp
        rw [e u] at hp
        have := h u hu
        omega
    rw [this]
    rfl
theorem re_all {k : Kt} (hk : Kok k) (w : Lw) : re k w (fun _ _ => true) 0 10 (2 ^ kn k - 1) ≠ 0 ↔ CA w (kst k) (khe k) (kn k) := by
  have h10 := hk.1
  have h2p := Nat.two_pow_pos (kn k)
  have hri := row_iff (adj := ajf w (kst k) (khe k)) (h1 := lhe w = 1) (ht := htf (khe k)) (fullF (kn k))
  have hst : ∀ l, l < kn k → rr k w (fun _ _ => true) 0 10 (2 ^ kn k - 1) l = true → stk k w (2 ^ kn k - 1) = true := fun d hd h => by
    have hb : (2 ^ kn k - 1).testBit d = true := ful.mpr hd
    obtain ⟨t, ht⟩ : ∃ t, t = nd (2 ^ kn k - 1) (2 ^ d) := ⟨_, rfl⟩
    have htd : t.testBit d = false := by rw [ht, nd_tb, Nat.testBit_two_pow]; simp
    have hts : t < 2 ^ kn k - 1 := by rw [ht]; exact nd_lt hb
    have e : 2 ^ kn k - 1 = t ||| 2 ^ d := by rw [ht]; exact (nd_or hb).symm
    have hne : t ||| 2 ^ d ≠ 0 := by omega
    rw [e, rr_s hk (Sok_0 k) (by omega) hd htd hne, anb_iff] at h
    obtain ⟨l, hl, h⟩ := h
    rw [Bool.and_eq_true] at h
    have hS := (rr_in hk (Sok_0 k) h.1).1
    have h2 := h.2
    unfold stp at h2
    rw [may_eq hk w (by omega) (Sok_l hS) hd, Bool.and_eq_true, Bool.and_eq_true, Bool.and_eq_true, Bool.and_eq_true] at h2
    rw [e]
    exact h2.2.2.1.2
  unfold CA
  rw [← stk_stG hk, hri]
  constructor
  · intro h
    obtain ⟨l, hl, hr⟩ := bm_ne0.mp h
    have hS := (rr_in hk (Sok_0 k) hr).1
    rcases hS.2 with z | z
    · have hk0 : kn k = 0 := by
        cases hz : kn k with
        | zero => rfl
        | succ n =>
          have := z.2
          rw [hz, Nat.pow_succ] at this
          have := Nat.two_pow_pos n
          omega
      refine ⟨?_, Or.inl hk0⟩
      rw [hk0]
      exact stk_0 k w
    · have hs := hst l z.1 hr
      exact ⟨hs, Or.inr ⟨l, z.1, (rr_EL hk hs _ _ (Nat.lt_succ_self _) (by omega) l z.1).mp hr⟩⟩
  · rintro ⟨hs, h⟩
    rcases h with z | ⟨d, hd, hE⟩
    · refine bm_ne0.mpr ⟨10, by decide, ?_⟩
      rw [z]
      show rr k w (fun _ _ => true) 0 10 0 10 = true
      rw [rr_0]
      rfl
    · exact bm_ne0.mpr ⟨d, by omega, (rr_EL hk hs _ _ (Nat.lt_succ_self _) (by omega) d hd).mpr hE⟩
/-! ## with which ones rows over a set can begin -/
noncomputable def glV (k : Kt) (w : Lw) (s : Nat) : Nat := if s = 0 then 1024 else bm (fun f => blB k w s f) (kn k)
theorem glV_lt {k : Kt} (hk : Kok k) (w : Lw) (s : Nat) : glV k w s < 2048 := by
  have h10 := hk.1
  have := bm_lt' (fun f => blB k w s f) h10
  unfold glV
  split <;> omega
def hlo (k : Kt) (w : Lw) (x t : Nat) : Bool := (lhe w == 1) && ((khot k).testBit x && (nd t (khot k) != 0))
theorem hlo_i {k : Kt} (w : Lw) {x t : Nat} (ht : t < 2 ^ kn k) (hx : x < kn k) : hlo k w x t = false ↔ (lhe w = 1 → htf (khe k) x = true → ∀ y, t.testBit y = true → htf (khe k) y = true) := by
  unfold hlo
  rw [khot_tb k hx]
  have hyk : ∀ y, t.testBit y = true → y < kn k := fun y hy => by
    cases Nat.lt_or_ge y (kn k) with
    | inl z => exact z
    | inr z =>
      rw [tb_hi ht z] at hy
      cases hy
  constructor
  · intro h h1 h2 y hy
    have h2 : (khe k x == 1) = true := h2
    have e1 : (lhe w == 1) = true := by simpa using h1
    rw [e1, h2, Bool.true_and, Bool.true_and] at h
    have hz : nd t (khot k) = 0 := by simpa using h
    cases hq : htf (khe k) y with
    | true => rfl
    | false =>
      have : (nd t (khot k)).testBit y = true := by
        rw [nd_tb, hy, khot_tb k (hyk y hy), show (khe k y == 1) = false from hq]
        rfl
      rw [hz, Nat.zero_testBit] at this
      cases this
  · intro h
    by_cases h1 : lhe w = 1
    · cases hx1 : (khe k x == 1) with
      | false => rw [Bool.false_and, Bool.and_false]
      | true =>
        have hz : nd t (khot k) = 0 := Nat.eq_of_testBit_eq (fun i => by
          rw [nd_tb, Nat.zero_testBit]
          cases hi : t.testBit i with
          | false => rfl
          | true =>
            have := h h1 hx1 i hi
            rw [khot_tb k (hyk i hi), show (khe k i == 1) = true from this]
            rfl)
        rw [hz]
        simp
    · have : (lhe w == 1) = false := by simpa using h1
      rw [this]
      rfl
theorem c_X5_isHeatLost (d : Nat) {μ : jM} {k : Kt} {w : Lw} (h : SP μ k w (fun _ _ => true) 0 10) (x t : Nat) (hx : x < kn k) (ht : t < 2 ^ kn k) : CL (d + 2) 93 [jR 29, jI x, jI t] μ = rI (if hlo k w x t then 1 else 0) μ := by
  obtain ⟨hk, h10, h0, hN⟩ := SP_k h
  have hkh : khot k < 2 ^ 10 := bm_lt' _ h10
  unfold hlo
  rw [e_X5_isHeatLost, c_stay _ h, bI_r]
  by_cases h1 : lhe w = 1
  · have e1 : (lhe w == 1) = true := by simpa using h1
    rw [if_pos h1, if_neg (by decide), c_hot _ h, bI_r, tb_1 _ x (by omega) (by omega), e1, Bool.true_and]
    cases (khot k).testBit x with
    | false =>
      rw [if_neg (by decide), gd_t (by decide), Bool.false_and]
      rfl
    | true =>
      rw [if_pos rfl, c_hot _ h, bI_r, xor_m1 _ (by omega), and_nc _ _ (by omega) (by omega), Bool.true_and]
      by_cases hz : nd t (khot k) = 0
      · rw [if_pos (by omega), gd_t (by decide), hz]
        rfl
      · have e2 : (nd t (khot k) != 0) = true := by simpa using hz
        rw [if_neg (show ¬ ((nd t (khot k) : Nat) : Int) = 0 by omega), gd_t (by decide), e2]
        rfl
  · have e1 : (lhe w == 1) = false := by simpa using h1
    rw [if_neg h1, if_pos rfl, gd_t (by decide), e1, Bool.false_and]
    rfl
theorem c_X5_findBeginnings (d : Nat) {μ : jM} {k : Kt} {w : Lw} (h : SP μ k w (fun _ _ => true) 0 10) : ∃ μ', CL (d + 3) 92 [jR 36, jR 29] μ = rV μ' ∧ (∀ q, q ≠ 44 → μ' q = μ q) ∧ ∀ t : Nat, t < 2 ^ kn k → μ' 44 (t : Int) = (glV k w t : Int) := by
  obtain ⟨hk, h10, h0, hN⟩ := SP_k h
  have h2p := Nat.two_pow_pos (kn k)
  let J : Nat → Nat → jM → Prop := fun a x m => (∀ q, q ≠ 44 → m q = μ q) ∧ ∀ t : Nat, t < 2 ^ kn k → m 44 (t : Int) = if t < a then (glV k w t : Int) else if t = a then (bm (fun f => blB k w a f) x : Nat) else 0
  have pics : ∀ m, (∀ q, q ≠ 44 → m q = μ q) → SP m k w (fun _ _ => true) 0 10 := fun m f => SP_cg h (fun q _ _ => f q (by omega))
  have one : ∀ a x m, 1 ≤ a → a < 2 ^ kn k → x < kn k → J a x m → ∃ m', EV (d + 2) T_X5_findBeginnings 2 [some (jR 36), some (jR 29), some (jI a), some (jI x), none, none] [] m = EV (d + 2) T_X5_findBeginnings 2 [some (jR 36), some (jR 29), some (jI a), some (jI ((x + 1 : Nat) : Int)), none, none] [] m' ∧ J a (x + 1) m' := by
    intro a x m ha1 ha hx hJ
    have s1 := pics m hJ.1
    have h2x := p2_le (show x ≤ 10 by omega)
    have hnl := nd_le a (2 ^ x)
    have e1 : bm (fun f => blB k w a f) (x + 1) = bm (fun f => blB k w a f) x ||| (if blB k w a x then 2 ^ x else 0) := rfl
    have stay : blB k w a x = false → J a (x + 1) m := fun hz => ⟨hJ.1, fun t ht => by
      rw [hJ.2 t ht, e1, hz, if_neg (show ¬ (false = true) by decide), Nat.or_zero]⟩
    have hbx : bm (fun f => blB k w a f) x < 1024 := bm_lt' (m := 10) _ (by omega)
    have put : blB k w a x = true → J a (x + 1) (jup m 44 (a : Int) (jor (m 44 (a : Int)) ((2 ^ x : Nat) : Int))) := fun hz => ⟨fun q hq => (jup_ne hq).trans (hJ.1 q hq), fun t ht => by
      by_cases hta : t = a
      · subst hta
        rw [jup_r, hJ.2 t ht, if_neg (Nat.lt_irrefl t), if_pos rfl, or_nn _ _ (by omega) (by omega), if_neg (Nat.lt_irrefl t), if_pos rfl, e1, hz, if_pos rfl]
      · rw [jup_m (by omega), hJ.2 t ht, if_neg hta, if_neg hta]⟩
    rw [e_X5_findBeginnings_2, c_dishes _ s1, bI_r, if_pos (by omega), shl_1 x (by omega), xor_m1 _ (by omega), and_nc a (2 ^ x) (by omega) (by omega), w_s x (by omega)]
    cases hax : a.testBit x with
    | false =>
      rw [nd_in hax, if_pos rfl, if_pos rfl]
      refine ⟨m, rfl, stay ?_⟩
      cases hz : blB k w a x with
      | false => rfl
      | true =>
        have := BL_in (blB_i.mp hz)
        rw [hax] at this
        cases this
    | true =>
      obtain ⟨t, ht⟩ : ∃ t, t = nd a (2 ^ x) := ⟨_, rfl⟩
      have htx : t.testBit x = false := by rw [ht, nd_tb, Nat.testBit_two_pow]; simp
      have hta : t < a := by rw [ht]; exact nd_lt hax
      have ea : a = t ||| 2 ^ x := by rw [ht]; exact (nd_or hax).symm
      have hnx := nra_lt hk w x
      have hgl := glV_lt hk w t
      have enr : nra k w x = nr k w x := if_neg (by omega)
      rw [← ht, if_neg (by omega), gd_t (by omega), c_near _ s1 x (Or.inr hx), bI_r, hJ.2 t (by omega), if_pos hta, and_nn _ _ (by omega) (by omega), c_X5_isHeatLost _ s1 x t hx (by omega), bI_r]
      have hst := BL_step (adj := ajf w (kst k) (khe k)) (h1 := lhe w = 1) (ht := htf (khe k)) htx
      rw [← ea] at hst
      have hgn : glV k w t &&& nra k w x ≠ 0 ↔ (t = 0 ∨ ∃ f, BLk k w t f ∧ aj k w x f = true) := by
        rw [enr]
        unfold glV
        constructor
        · intro hz
          by_cases ht0 : t = 0
          · exact Or.inl ht0
          · rw [if_neg ht0] at hz
            right
            have : ∃ i, (bm (fun f => blB k w t f) (kn k) &&& nr k w x).testBit i = true := by
              cases hc : anb (fun i => (bm (fun f => blB k w t f) (kn k) &&& nr k w x).testBit i) 11 with
              | true =>
                obtain ⟨i, -, hi⟩ := anb_iff.mp hc
                exact ⟨i, hi⟩
              | false =>
                refine absurd (Nat.eq_of_testBit_eq (fun i => ?_)) hz
                rw [Nat.zero_testBit]
                by_cases hi : i < 11
                · exact anb_f hc hi
                · refine tb_hi (n := 11) ?_ (by omega)
                  exact Nat.lt_of_le_of_lt Nat.and_le_left (bm_lt' (m := 11) _ (by omega))
            obtain ⟨i, hi⟩ := this
            rw [Nat.testBit_and, bm_tb, Bool.and_eq_true, Bool.and_eq_true] at hi
            have hik : i < kn k := of_decide_eq_true hi.1.1
            have hB := blB_i.mp hi.1.2
            have hne : i ≠ x := fun z => by
              have := BL_in hB
              rw [z, htx] at this
              cases this
            exact ⟨i, hB, by rw [← nr_aj hk w hx hik hne]; exact hi.2⟩
        · intro hz z
          rcases hz with y | ⟨f, y1, y2⟩
          · rw [if_pos y] at z
            have : (1024 &&& nr k w x).testBit 10 = true := by
              rw [Nat.testBit_and, nr_10 hk]
              decide
            rw [z, Nat.zero_testBit] at this
            cases this
          · have hft := BL_in y1
            have hfk : f < kn k := by
              cases Nat.lt_or_ge f (kn k) with
              | inl z => exact z
              | inr z =>
                rw [tb_hi (n := kn k) (by omega) z] at hft
                cases hft
            have hne : f ≠ x := fun z => by
              rw [z, htx] at hft
              cases hft
            have ht0 : t ≠ 0 := fun z => by
              rw [z, Nat.zero_testBit] at hft
              cases hft
            rw [if_neg ht0] at z
            have : (bm (fun f => blB k w t f) (kn k) &&& nr k w x).testBit f = true := by
              rw [Nat.testBit_and, bm_tb, decide_eq_true hfk, blB_i.mpr y1, nr_aj hk w hx hfk hne, y2]
              rfl
            rw [z, Nat.zero_testBit] at this
            cases this
      by_cases hg : glV k w t &&& nra k w x = 0
      · rw [if_pos (by omega), if_pos rfl]
        refine ⟨m, rfl, stay ?_⟩
        cases hz : blB k w a x with
        | false => rfl
        | true => exact absurd hg (hgn.mpr (hst.mp (blB_i.mp hz)).2)
      · rw [if_neg (by omega), if_neg (by decide)]
        cases hl : hlo k w x t with
        | true =>
          rw [z_t]
          refine ⟨m, rfl, stay ?_⟩
          cases hz : blB k w a x with
          | false => rfl
          | true =>
            have := (hlo_i w (by omega) hx).mpr (hst.mp (blB_i.mp hz)).1
            rw [hl] at this
            cases this
        | false =>
          rw [z_f, gd_t (by omega), gd_t (by omega)]
          exact ⟨_, rfl, put (blB_i.mpr (hst.mpr ⟨(hlo_i w (by omega) hx).mp hl, hgn.mp hg⟩))⟩
  have hfill : ∀ d, CL (d + 1) 1 [jR 44, jI 0] μ = rV (jpre μ 44 (fun _ => 0) 1024) := fun d => c_fill d μ 44 1024 0 (by decide) (by decide)
  let m0 : jM := jup (jpre μ 44 (fun _ => 0) 1024) 44 0 1024
  have j0 : J 1 0 m0 := ⟨fun q hq => (jup_ne hq).trans (jpre_ne hq), fun t ht => by
    show jup (jpre μ 44 (fun _ => 0) 1024) 44 0 1024 44 (t : Int) = _
    by_cases ht0 : t = 0
    · subst ht0
      rw [if_pos (by decide)]
      exact jup_r _ _ _ _
    · rw [jup_m (by omega), if_neg (by omega), jpre_lo (by omega)]
      split <;> rfl⟩
  obtain ⟨m, e1, jm⟩ := lp_i (fun (i : Nat) (m : jM) => EV (d + 2) T_X5_findBeginnings 1 [some (jR 36), some (jR 29), some (jI ((i + 1 : Nat) : Int)), none, none, none] [] m) (fun i m => J (i + 1) 0 m) (2 ^ kn k - 1) (fun i m hi hJ => by
    have hJ : J (i + 1) 0 m := hJ
    obtain ⟨m2, e2, j2⟩ := lp_i (fun (x : Nat) (m : jM) => EV (d + 2) T_X5_findBeginnings 2 [some (jR 36), some (jR 29), some (jI ((i + 1 : Nat) : Int)), some (jI x), none, none] [] m) (fun x m => J (i + 1) x m) (kn k) (fun x m hx hJ => one (i + 1) x m (by omega) (by omega) hx hJ) m hJ
    have e2 : EV (d + 2) T_X5_findBeginnings 2 [some (jR 36), some (jR 29), some (jI ((i + 1 : Nat) : Int)), some (jI 0), none, none] [] m = EV (d + 2) T_X5_findBeginnings 2 [some (jR 36), some (jR 29), some (jI ((i + 1 : Nat) : Int)), some (jI (kn k)), none, none] [] m2 := e2
    have j2 : J (i + 1) (kn k) m2 := j2
    have s1 := pics m hJ.1
    have s2 := pics m2 j2.1
    refine ⟨m2, ?_, j2.1, fun t ht => ?_⟩
    · show EV (d + 2) T_X5_findBeginnings 1 [some (jR 36), some (jR 29), some (jI ((i + 1 : Nat) : Int)), none, none, none] [] m = _
      rw [e_X5_findBeginnings_1, c_sets _ s1, bI_r, if_pos (by omega), if_pos (by omega), e2, e_X5_findBeginnings_2, c_dishes _ s2, bI_r, if_neg (by omega), w_s (i + 1) (by omega)]
    · rw [j2.2 t ht]
      by_cases h1 : t < i + 1
      · rw [if_pos h1, if_pos (by omega)]
      · rw [if_neg h1]
        by_cases h2 : t = i + 1
        · subst h2
          rw [if_pos rfl, if_pos (by omega)]
          unfold glV
          rw [if_neg (by omega)]
        · rw [if_neg h2, if_neg (by omega)]
          split <;> rfl) m0 j0
  have jm : J (2 ^ kn k - 1 + 1) 0 m := jm
  have e1 : EV (d + 2) T_X5_findBeginnings 1 [some (jR 36), some (jR 29), some (jI 1), none, none, none] [] m0 = EV (d + 2) T_X5_findBeginnings 1 [some (jR 36), some (jR 29), some (jI ((2 ^ kn k - 1 + 1 : Nat) : Int)), none, none, none] [] m := e1
  have s1 := pics m jm.1
  refine ⟨m, ?_, jm.1, fun t ht => by rw [jm.2 t ht, if_pos (by omega)]⟩
  rw [e_X5_findBeginnings, hfill, bV_r, gd_t (by decide)]
  refine e1.trans ?_
  rw [e_X5_findBeginnings_1, c_sets _ s1, bI_r, if_neg (by omega)]
/-! ## what can be behind the gap -/
noncomputable def tooH (k : Kt) (w : Lw) (t : Nat) : Bool := (lhe w == 1) && ((t &&& khot k) != 0)
noncomputable def foV (k : Kt) (w : Lw) (a l : Nat) : Nat := bm (fun f => anb (fun t => (rr k w (fun _ _ => true) 0 10 t l && !tooH k w t) && (glV k w (nd (2 ^ kn k - 1) t)).testBit f) a) 11
theorem foV_lt (k : Kt) (w : Lw) (a l : Nat) : foV k w a l < 2048 := bm_lt _ 11
theorem foV_s {k : Kt} (hk : Kok k) (w : Lw) (a l : Nat) : foV k w (a + 1) l = if (rr k w (fun _ _ => true) 0 10 a l && !tooH k w a) then foV k w a l ||| glV k w (nd (2 ^ kn k - 1) a) else foV k w a l := by
  apply Nat.eq_of_testBit_eq
  intro f
  have hg := glV_lt hk w (nd (2 ^ kn k - 1) a)
  have e : ∀ f, anb (fun t => (rr k w (fun _ _ => true) 0 10 t l && !tooH k w t) && (glV k w (nd (2 ^ kn k - 1) t)).testBit f) (a + 1) = (anb (fun t => (rr k w (fun _ _ => true) 0 10 t l && !tooH k w t) && (glV k w (nd (2 ^ kn k - 1) t)).testBit f) a || ((rr k w (fun _ _ => true) 0 10 a l && !tooH k w a) && (glV k w (nd (2 ^ kn k - 1) a)).testBit f)) := fun _ => rfl
  unfold foV
  rw [bm_tb, e]
  cases (rr k w (fun _ _ => true) 0 10 a l && !tooH k w a) with
  | false => rw [if_neg (by decide), bm_tb, Bool.false_and, Bool.or_false]
  | true =>
    rw [if_pos rfl, Nat.testBit_or, bm_tb, Bool.true_and]
    by_cases hf : f < 11
    · rw [decide_eq_true hf, Bool.true_and, Bool.true_and]
    · rw [decide_eq_false hf, Bool.false_and, Bool.false_and, Bool.false_or, tb_hi (n := 11) hg (by omega)]
theorem c_X5_findGaps (d : Nat) {μ : jM} {k : Kt} {w : Lw} (h : SP μ k w (fun _ _ => true) 0 10) (hg : ∀ t : Nat, t < 2 ^ kn k → μ 44 (t : Int) = (glV k w t : Int)) : ∃ μ', CL (d + 2) 94 [jR 36, jR 29, jI (2 ^ kn k - 1 : Nat)] μ = rV μ' ∧ (∀ q, q ≠ 46 → μ' q = μ q) ∧ ∀ l : Nat, l < 10 → μ' 46 (l : Int) = (foV k w (2 ^ kn k) l : Int) := by
  obtain ⟨hk, h10, h0, hN⟩ := SP_k h
  have h2p := Nat.two_pow_pos (kn k)
  have hkh : khot k < 2 ^ 10 := bm_lt' _ h10
  let J : Nat → Nat → jM → Prop := fun a x m => (∀ q, q ≠ 46 → m q = μ q) ∧ ∀ l : Nat, l < 10 → m 46 (l : Int) = (foV k w (if l < x then a + 1 else a) l : Int)
  have pics : ∀ m, (∀ q, q ≠ 46 → m q = μ q) → SP m k w (fun _ _ => true) 0 10 := fun m f => SP_cg h (fun q _ _ => f q (by omega))
  have set : ∀ a m, a < 2 ^ kn k → J a 0 m → ∃ m', EV (d + 1) T_X5_findGaps 1 [some (jR 36), some (jR 29), some (jI (2 ^ kn k - 1 : Nat)), some (jI a), none, none] [] m = EV (d + 1) T_X5_findGaps 1 [some (jR 36), some (jR 29), some (jI (2 ^ kn k - 1 : Nat)), some (jI ((a + 1 : Nat) : Int)), none, none] [] m' ∧ J (a + 1) 0 m' := by
    intro a m ha hJ
    have s1 := pics m hJ.1
    have head : EV (d + 1) T_X5_findGaps 1 [some (jR 36), some (jR 29), some (jI (2 ^ kn k - 1 : Nat)), some (jI a), none, none] [] m = EV (d + 1) T_X5_findGaps 2 [some (jR 36), some (jR 29), some (jI (2 ^ kn k - 1 : Nat)), some (jI a), some (jI (if tooH k w a then 1 else 0)), some (jI 0)] [] m := by
      rw [e_X5_findGaps_1, if_neg (by omega), if_pos (by omega), c_stay _ s1, bI_r]
      unfold tooH
      by_cases h1 : lhe w = 1
      · have e1 : (lhe w == 1) = true := by simpa using h1
        rw [if_pos h1, if_neg (by decide), c_hot _ s1, bI_r, and_nn _ _ (by omega) (by omega), e1, Bool.true_and]
        by_cases hz : a &&& khot k = 0
        · rw [if_pos (by omega), hz]
          rfl
        · have e2 : ((a &&& khot k) != 0) = true := by simpa using hz
          rw [if_neg (by omega), e2]
          rfl
      · have e1 : (lhe w == 1) = false := by simpa using h1
        rw [if_neg h1, if_pos rfl, e1, Bool.false_and]
        rfl
    rw [head]
    cases ht : tooH k w a with
    | true =>
      have same : ∀ l, foV k w (a + 1) l = foV k w a l := fun l => by
        rw [foV_s hk, ht]
        simp
      refine ⟨m, ?_, hJ.1, fun l hl => by rw [hJ.2 l hl, if_neg (Nat.not_lt_zero l), if_neg (Nat.not_lt_zero l), same]⟩
      rw [e_X5_findGaps_2, if_pos (by decide), if_pos (show (true = true) from rfl), if_neg (by decide), w_s a (by omega)]
    | false =>
      have hre := re_lt k w (fun _ _ => true) 0 10 a
      have hnl : nd (2 ^ kn k - 1) a < 2 ^ kn k := by
        have := nd_le (2 ^ kn k - 1) a
        omega
      obtain ⟨m2, e2, j2⟩ := lp_i (fun (l : Nat) (m : jM) => EV (d + 1) T_X5_findGaps 2 [some (jR 36), some (jR 29), some (jI (2 ^ kn k - 1 : Nat)), some (jI a), some (jI 0), some (jI l)] [] m) (fun l m => J a l m) 10 (fun l m hl hJ => by
        have hJ : J a l m := hJ
        have s1 := pics m hJ.1
        show ∃ s', EV (d + 1) T_X5_findGaps 2 [some (jR 36), some (jR 29), some (jI (2 ^ kn k - 1 : Nat)), some (jI a), some (jI 0), some (jI l)] [] m = _ ∧ _
        rw [e_X5_findGaps_2, if_pos (by omega), if_pos rfl, c_ends _ s1 a ha, bI_r, tb_1 _ l (by omega) (by omega), re_tb (by omega), w_s l (by omega)]
        have hs := foV_s hk w a l
        rw [ht] at hs
        cases hr : rr k w (fun _ _ => true) 0 10 a l with
        | false =>
          rw [hr, Bool.false_and, if_neg (by decide)] at hs
          refine ⟨m, if_neg (by decide), hJ.1, fun y hy => ?_⟩
          rw [hJ.2 y hy]
          by_cases hyl : y = l
          · subst hyl
            rw [if_neg (Nat.lt_irrefl y), if_pos (Nat.lt_succ_self y), hs]
          · by_cases hz : y < l
            · rw [if_pos hz, if_pos (by omega)]
            · rw [if_neg hz, if_neg (by omega)]
        | true =>
          rw [hr, Bool.not_false, Bool.true_and, if_pos rfl] at hs
          have hf := foV_lt k w a l
          have hgl := glV_lt hk w (nd (2 ^ kn k - 1) a)
          have v46 : m 46 (l : Int) = (foV k w a l : Int) := by rw [hJ.2 l hl, if_neg (Nat.lt_irrefl l)]
          have v44 : m 44 ((nd (2 ^ kn k - 1) a : Nat) : Int) = (glV k w (nd (2 ^ kn k - 1) a) : Int) := by
            rw [hJ.1 44 (by decide)]
            exact hg _ hnl
          rw [if_pos (show (if true = true then (1 : Int) else 0) = 1 from rfl), gd_t (by omega), xor_m1 _ (by omega), and_nc _ _ (by omega) (by omega), gd_t (by omega), gd_t (by omega), v46, v44, or_nn _ _ (by omega) (by omega)]
          refine ⟨_, rfl, fun q hq => (jup_ne hq).trans (hJ.1 q hq), fun y hy => ?_⟩
          by_cases hyl : y = l
          · subst hyl
            rw [if_pos (Nat.lt_succ_self y), hs]
            exact jup_r _ _ _ _
          · rw [jup_m (by omega), hJ.2 y hy]
            by_cases hz : y < l
            · rw [if_pos hz, if_pos (by omega)]
            · rw [if_neg hz, if_neg (by omega)]) m hJ
      have j2 : J a 10 m2 := j2
      refine ⟨m2, Eq.trans e2 ?_, j2.1, fun l hl => by rw [j2.2 l hl, if_pos hl, if_neg (Nat.not_lt_zero l)]⟩
      show EV (d + 1) T_X5_findGaps 2 [some (jR 36), some (jR 29), some (jI (2 ^ kn k - 1 : Nat)), some (jI a), some (jI 0), some (jI 10)] [] m2 = _
      rw [e_X5_findGaps_2, if_neg (by decide), w_s a (by omega)]
  have hfill : ∀ d, CL (d + 1) 1 [jR 46, jI 0] μ = rV (jpre μ 46 (fun _ => 0) 10) := fun d => c_fill d μ 46 10 0 (by decide) (by decide)
  obtain ⟨m, e1, jm⟩ := lp_i (fun (a : Nat) (m : jM) => EV (d + 1) T_X5_findGaps 1 [some (jR 36), some (jR 29), some (jI (2 ^ kn k - 1 : Nat)), some (jI a), none, none] [] m) (fun a m => J a 0 m) (2 ^ kn k) (fun a m ha hJ => set a m ha hJ) (jpre μ 46 (fun _ => 0) 10) ⟨fun q hq => jpre_ne hq, fun l hl => by
    rw [jpre_lo hl, if_neg (Nat.not_lt_zero l)]
    have : foV k w 0 l = 0 := bm_none (fun _ _ => rfl)
    rw [this]
    rfl⟩
  have jm : J (2 ^ kn k) 0 m := jm
  refine ⟨m, ?_, jm.1, fun l hl => by rw [jm.2 l hl, if_neg (Nat.not_lt_zero l)]⟩
  rw [e_X5_findGaps, hfill, bV_r]
  refine Eq.trans e1 ?_
  show EV (d + 1) T_X5_findGaps 1 [some (jR 36), some (jR 29), some (jI (2 ^ kn k - 1 : Nat)), some (jI (2 ^ kn k : Nat)), none, none] [] m = _
  rw [e_X5_findGaps_1, if_pos (by omega)]
