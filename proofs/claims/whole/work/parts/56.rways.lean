/-! ## the reference: how many ways; what is shut out -/
theorem th0_KR {μ : jM} {k : Kt} (h : KR μ k) : KR (jup μ 69 20 0) k := KR_cg h (fun q _ _ => jup_ne (by omega)) (jup_m (by decide)) (jup_m (by decide))
theorem th0_LR {μ : jM} {w : Lw} (h : LR μ w) : LR (jup μ 69 20 0) w := LR_cg h (jup_ne (by decide)) (jup_m (by decide)) (jup_m (by decide)) (jup_m (by decide))
theorem th0_SR {μ : jM} {b : List Nat} (h : SR μ b) : SR (jup μ 69 20 0) b := SR_cg h (jup_ne (by decide)) (jup_m (by decide))
theorem th0_RR {μ : jM} {r : List Int} (h : RR μ r) : RR (jup μ 69 20 0) r := RR_cg h (jup_ne (by decide)) (jup_m (by decide))
theorem sx_nwr {k : Kt} (hk : Kok k) {w : Lw} {A : Ap} {s0 l0 : Nat} (h0 : Sok k s0 l0) (a : Nat) : sx (fun l => nwr k w A s0 l0 a l) (kn k + 1) = sm (fun l => nwr k w A s0 l0 a l) 11 := sx_11 hk.1 (fun i h1 h2 => nwr_Stt hk h0 (fun z => by rcases z.2.1 with y | y <;> omega))
theorem nw_A {k : Kt} (w : Lw) {A A' : Ap} (h : ∀ i x, x < kn k → A i x = A' i x) (s0 l0 : Nat) : ∀ m s l, nw k w A s0 l0 m s l = nw k w A' s0 l0 m s l
  | 0, _, _ => rfl
  | m + 1, s, l => by
    have e : ∀ l', (if stp k w A m (nd s (2 ^ l)) l' l then nw k w A s0 l0 m (nd s (2 ^ l)) l' else 0) = (if stp k w A' m (nd s (2 ^ l)) l' l then nw k w A' s0 l0 m (nd s (2 ^ l)) l' else 0) := fun l' => by rw [nw_A w h s0 l0 m, stp_A w h]
    show (if decide (l < kn k) && s.testBit l then sm (fun l' => if stp k w A m (nd s (2 ^ l)) l' l then nw k w A s0 l0 m (nd s (2 ^ l)) l' else 0) 11 else 0) = if decide (l < kn k) && s.testBit l then sm (fun l' => if stp k w A' m (nd s (2 ^ l)) l' l then nw k w A' s0 l0 m (nd s (2 ^ l)) l' else 0) 11 else 0
    rw [sm_cg 11 (fun i _ => e i)]
theorem c_X12_ways (d : Nat) {μ : jM} {k : Kt} {w : Lw} {b : List Nat} (hk : KR μ k) (hw : LR μ w) (hb : SR μ b) (hbk : Bok (kn k) b) (n : Nat) (hn : n ≤ 10) : ∃ μ', CL (d + 6) 270 [jR 69, jI n] μ = rL (NW k w (fun _ _ => true) (bset b) (bla b) n (2 ^ kn k)) μ' ∧ fRf μ' (jup μ 69 20 0) ∧ μ' 69 = jup μ 69 20 0 69 ∧ μ' 81 = μ 81 := by
  have hko := hk.1
  have h10 := hko.1
  have hN := p2_le h10
  have hS0 := Sok_b hbk
  have hpcb := bset_pc hb.1
  have hbl := Bok_len hb.1
  have hsb := X12_sall hko
  let A : Ap := fun _ _ => true
  have hk0 := th0_KR hk
  have hw0 := th0_LR hw
  have hb0 := th0_SR hb
  obtain ⟨μ1, e1, f1, t1⟩ := c_X12_findRows d hk0 hw0 hS0 _ hsb
  have g1 : fRf μ1 (jup μ 69 20 0) := fRf_q 85 (by omega) f1
  have k1 := fRf_KR g1 hk0
  have b1 := fRf_SR g1 hb0
  have t2 : ∀ s l, Stt k s l → μ1 85 ((11 * s + l : Nat) : Int) = nwr k w A (bset b) (bla b) s l := fun s l hs => by
    rw [t1 s l hs]
    exact nw_A (k := k) w (A := fun _ x => (2 ^ kn k - 1).testBit x) (A' := A) sall_A _ _ _ _ _
  have hnwb := fun a => snw_b hko hS0 (w := w) (A := A) a
  obtain ⟨v, e2, hv⟩ := lp_tab (fun (a : Nat) (v : Int) => EV (d + 5) T_X12_ways 1 [some (jR 69), some (jI n), some (jL v), none, some (jI a), none] [] μ1) (fun (a j : Nat) (v : Int) => EV (d + 5) T_X12_ways 2 [some (jR 69), some (jI n), some (jL v), none, some (jI a), some (jI ((j : Int) - 1))] [] μ1) (2 ^ kn k) (kn k + 1) (fun a j v => v = NW k w A (bset b) (bla b) n a + (if pc a = pc (bset b) + n then sx (fun l => nwr k w A (bset b) (bla b) a l) j else 0)) (fun a v ha hI => by
    show EV (d + 5) T_X12_ways 1 _ [] μ1 = _
    rw [e_X12_ways_1, c_X12_all _ k1, bI_r, if_neg (by omega)]
    rfl) (fun a j v ha hj hI => by
    have hjx := lx_le (show j ≤ kn k by omega) h10
    have hpa := pc_le (n := 10) (show a < 2 ^ 10 by omega) (by decide)
    have hnb := NW_b hko hS0 (w := w) (A := A) n a (by omega)
    have hsx := sx_b (f := fun l => nwr k w A (bset b) (bla b) a l) (B := 362880) (fun l => nwr_b hko hS0 a l) j
    have hnr := nwr_b hko hS0 (w := w) (A := A) a (lx j)
    have hjb : (j : Int) * 362880 ≤ 11 * 362880 := by omega
    have estep : sx (fun l => nwr k w A (bset b) (bla b) a l) (j + 1) = sx (fun l => nwr k w A (bset b) (bla b) a l) j + nwr k w A (bset b) (bla b) a (lx j) := rfl
    show ∃ s', EV (d + 5) T_X12_ways 2 _ [] μ1 = _ ∧ _
    rw [e_X12_ways_2, k1.2.1, if_pos (by omega), x_isState _ _ a j (by omega) (by omega), bI_r, x_inc _ (by omega)]
    cases hi : ist a (lx j) with
    | false =>
      refine ⟨v, if_pos rfl, ?_⟩
      rw [hI, estep, nwr_Stt hko hS0 (fun z => by rw [z.2.2] at hi; cases hi)]
      split <;> omega
    | true =>
      have hst : Stt k a (lx j) := ⟨ha, lx_kn hj, hi⟩
      rw [if_pos rfl, if_neg (by decide), c_bc _ _ _ (by omega), bI_r, b1.2.1, w_id (x := (b.length : Int) + (n : Int)) (by omega) (by omega)]
      by_cases hp : pc a = pc (bset b) + n
      · rw [if_pos (by omega), x_place _ _ a j (by omega) (by omega), bI_r, gd_t (by omega), t2 a _ hst]
        rw [if_pos hp] at hI
        refine ⟨_, rfl, ?_⟩
        rw [if_pos hp, hI, w64_id (by omega) (by omega), estep]
        omega
      · rw [if_neg (by omega)]
        refine ⟨v, rfl, ?_⟩
        rw [if_neg hp] at hI ⊢
        exact hI) (fun a v ha hI => by
    refine ⟨?_, ?_⟩
    · show EV (d + 5) T_X12_ways 2 _ [] μ1 = _
      rw [e_X12_ways_2, k1.2.1, if_neg (by omega), w_s a (by omega)]
    · rw [hI, sx_nwr hko hS0]
      show NW k w A (bset b) (bla b) n a + _ = (NW k w A (bset b) (bla b) n a + (if pc a = pc (bset b) + n then sm (fun l => nwr k w A (bset b) (bla b) a l) 11 else 0)) + (if pc (a + 1) = pc (bset b) + n then 0 else 0)
      split <;> split <;> omega) 0 (by
    show (0 : Int) = 0 + (if _ then 0 else 0)
    split <;> rfl)
  refine ⟨μ1, ?_, g1, f1 69 (by decide), (f1 81 (by decide)).trans (jup_ne (by decide))⟩
  rw [e_X12_ways, c_X12_in, if_pos (by omega), bI_r, if_neg (by decide), c_X12_servedSet _ hb0, bI_r, c_X12_servedLast _ hb0, bI_r, c_X12_all _ hk0, bI_r, e1, bV_r]
  refine Eq.trans e2 ?_
  show EV (d + 5) T_X12_ways 1 _ [] μ1 = _
  rw [e_X12_ways_1, c_X12_all _ k1, bI_r, if_pos (by have := Nat.two_pow_pos (kn k); omega), hv]
  have : (if pc (2 ^ kn k) = pc (bset b) + n then sx (fun l => nwr k w A (bset b) (bla b) (2 ^ kn k) l) 0 else 0) = 0 := by split <;> rfl
  rw [this, Int.add_zero]
/-- DISHES that are in no row of more than n -/
def shu (k : Kt) (w : Lw) (n : Int) (a j : Nat) : Nat := bm (fun x => !(anb (fun s => (anb (fun l => rr k w (fun _ _ => true) 0 10 s l) 10 && decide (n < (pc s : Nat))) && s.testBit x) a || ((anb (fun l => rr k w (fun _ _ => true) 0 10 a l) j && decide (n < (pc a : Nat))) && a.testBit x))) (kn k)
theorem shu_lt {k : Kt} (hk : Kok k) (w : Lw) (n : Int) (a j : Nat) : shu k w n a j < 1024 := bm_lt' _ hk.1
theorem c_X12_shut (d : Nat) {μ : jM} {k : Kt} {w : Lw} (hk : KR μ k) (hw : LR μ w) (n : Nat) (hn : n ≤ 9) : ∃ μ', CL (d + 6) 281 [jR 69, jI n] μ = rI (shu k w n (2 ^ kn k) 0 : Nat) μ' ∧ fRf μ' (jup μ 69 20 0) ∧ μ' 69 = jup μ 69 20 0 69 ∧ μ' 81 = μ 81 := by
  have hko := hk.1
  have h10 := hko.1
  have hN := p2_le h10
  have hsb := X12_sall hko
  let A : Ap := fun _ _ => true
  have hk0 := th0_KR hk
  have hw0 := th0_LR hw
  obtain ⟨μ1, e1, f1, t1⟩ := c_X12_findRows d hk0 hw0 (Sok_0 k) _ hsb
  have e1 : CL (d + 5) 267 [jR 69, jI 0, jI (-1), jI (2 ^ kn k - 1 : Nat)] (jup μ 69 20 0) = rV μ1 := e1
  have g1 : fRf μ1 (jup μ 69 20 0) := fRf_q 85 (by omega) f1
  have k1 := fRf_KR g1 hk0
  have t2 : ∀ s l, Stt k s l → decide (0 < μ1 85 ((11 * s + l : Nat) : Int)) = rr k w A 0 10 s l := fun s l hs => by
    rw [t1 s l hs, nwr_rr]
    exact congrFun (congrFun (rr_A (k := k) w (A := fun (_ x : Nat) => (2 ^ kn k - 1).testBit x) (A' := A) sall_A 0 10) s) l
  have e00 : 2 ^ kn k - 1 = shu k w n 0 0 := by
    apply Nat.eq_of_testBit_eq
    intro i
    unfold shu
    rw [bm_tb, Nat.testBit_two_pow_sub_one]
    simp [anb]
  obtain ⟨v, e2, hv⟩ := lp_tab (fun (a : Nat) (v : Int) => EV (d + 5) T_X12_shut 1 [some (jR 69), some (jI n), some (jI v), some (jI a), none] [] μ1) (fun (a j : Nat) (v : Int) => EV (d + 5) T_X12_shut 2 [some (jR 69), some (jI n), some (jI v), some (jI a), some (jI j)] [] μ1) (2 ^ kn k) (kn k) (fun a j v => v = (shu k w n a j : Nat)) (fun a v ha hI => by
    show EV (d + 5) T_X12_shut 1 _ [] μ1 = _
    rw [e_X12_shut_1, c_X12_all _ k1, bI_r, if_neg (by omega)]
    rfl) (fun a j v ha hj hI => by
    have hpa := pc_le (n := 10) (show a < 2 ^ 10 by omega) (by decide)
    have hb := shu_lt hko w n a j
    have stay : (rr k w A 0 10 a j && decide ((n : Int) < (pc a : Nat))) = false → shu k w n a (j + 1) = shu k w n a j := fun hz => by
      apply bm_cg
      intro x _
      have : anb (fun l => rr k w (fun _ _ => true) 0 10 a l) (j + 1) = (anb (fun l => rr k w (fun _ _ => true) 0 10 a l) j || rr k w A 0 10 a j) := rfl
      rw [this]
      revert hz
      cases rr k w A 0 10 a j <;> cases decide ((n : Int) < (pc a : Nat)) <;> simp
    show ∃ s', EV (d + 5) T_X12_shut 2 _ [] μ1 = _ ∧ _
    rw [e_X12_shut_2, k1.2.1, if_pos (by omega), c_X12_has _ _ a j (by omega) (by omega), bI_r, w_s j (by omega)]
    cases hbt : a.testBit j with
    | false =>
      refine ⟨v, if_pos rfl, ?_⟩
      rw [hI, stay]
      cases hr : rr k w A 0 10 a j with
      | false => rfl
      | true =>
        rcases (rr_in hko (Sok_0 k) hr).1.2 with z | z
        · omega
        · rw [z.2] at hbt
          cases hbt
    | true =>
      have hst : Stt k a j := ⟨ha, Or.inr hj, by unfold ist; rw [if_neg (by omega)]; exact hbt⟩
      have h85 := t2 a j hst
      rw [if_pos rfl, if_neg (by decide), d_place _ _ a j (by omega) (by omega), bI_r, gd_t (by omega), ite_jcmp]
      cases hr : rr k w A 0 10 a j with
      | false =>
        rw [hr, decide_eq_false_iff_not] at h85
        rw [if_neg h85]
        exact ⟨v, rfl, by rw [hI, stay (by rw [hr]; rfl)]⟩
      | true =>
        rw [hr, decide_eq_true_eq] at h85
        rw [if_pos h85, c_bc _ _ _ (by omega), bI_r]
        by_cases h1 : (n : Int) < (pc a : Nat)
        · rw [if_pos h1, xor_m1 _ (by omega), hI, and_nc _ _ (by omega) (by omega)]
          refine ⟨_, rfl, ?_⟩
          congr 1
          apply Nat.eq_of_testBit_eq
          intro x
          rw [nd_tb]
          unfold shu
          rw [bm_tb, bm_tb]
          have : anb (fun l => rr k w (fun _ _ => true) 0 10 a l) (j + 1) = (anb (fun l => rr k w (fun _ _ => true) 0 10 a l) j || rr k w A 0 10 a j) := rfl
          rw [this, hr, decide_eq_true h1]
          cases decide (x < kn k) <;> cases a.testBit x <;> simp
        · rw [if_neg h1]
          exact ⟨v, rfl, by rw [hI, stay (by rw [decide_eq_false h1, Bool.and_false])]⟩) (fun a v ha hI => by
    refine ⟨?_, ?_⟩
    · show EV (d + 5) T_X12_shut 2 _ [] μ1 = _
      rw [e_X12_shut_2, k1.2.1, if_neg (by omega), w_s a (by omega)]
    · rw [hI]
      congr 1
      apply bm_cg
      intro x _
      have : anb (fun s => (anb (fun l => rr k w (fun _ _ => true) 0 10 s l) 10 && decide ((n : Int) < (pc s : Nat))) && s.testBit x) (a + 1) = (anb (fun s => (anb (fun l => rr k w (fun _ _ => true) 0 10 s l) 10 && decide ((n : Int) < (pc s : Nat))) && s.testBit x) a || ((anb (fun l => rr k w (fun _ _ => true) 0 10 a l) 10 && decide ((n : Int) < (pc a : Nat))) && a.testBit x)) := rfl
      rw [this]
      have e10 : anb (fun l => rr k w (fun _ _ => true) 0 10 a l) (kn k) = anb (fun l => rr k w (fun _ _ => true) 0 10 a l) 10 := by
        apply Bool.eq_iff_iff.mpr
        rw [anb_iff, anb_iff]
        constructor
        · rintro ⟨l, h1, h2⟩
          exact ⟨l, by omega, h2⟩
        · rintro ⟨l, h1, h2⟩
          refine ⟨l, ?_, h2⟩
          rcases (rr_in hko (Sok_0 k) h2).1.2 with z | z
          · omega
          · exact z.1
      rw [e10]
      show (!(_ || _)) = !((_ || _) || ((anb _ 0 && _) && _))
      simp [anb]) ((2 ^ kn k - 1 : Nat) : Int) (by rw [e00])
  refine ⟨μ1, ?_, g1, f1 69 (by decide), (f1 81 (by decide)).trans (jup_ne (by decide))⟩
  rw [e_X12_shut, c_X12_in, if_pos (by omega), bI_r, if_neg (by decide), c_X12_all _ hk0, bI_r, e1, bV_r, c_X12_all _ k1, bI_r]
  refine Eq.trans e2 ?_
  show EV (d + 5) T_X12_shut 1 _ [] μ1 = _
  rw [e_X12_shut_1, c_X12_all _ k1, bI_r, if_pos (by have := Nat.two_pow_pos (kn k); omega), hv]
/-- the same, as the class tells it -/
theorem shu_sab {k : Kt} (hk : Kok k) (w : Lw) (n : Nat) : jand ((2 ^ kn k - 1 : Nat) : Int) (jxor (sab k w (fun _ _ => true) 0 10 n (2 ^ kn k) : Nat) (-1)) = (shu k w n (2 ^ kn k) 0 : Nat) := by
  have hN := p2_le hk.1
  have h1 := sab_lt k w (fun _ _ => true) 0 10 n (2 ^ kn k) hN
  have h2 := X12_sall hk
  rw [xor_m1 _ (by omega), and_nc _ _ (by omega) (by omega)]
  congr 1
  apply Nat.eq_of_testBit_eq
  intro x
  rw [nd_tb, sab_tb, Nat.testBit_two_pow_sub_one]
  unfold shu
  rw [bm_tb]
  have e : anb (fun s => (re k w (fun _ _ => true) 0 10 s != 0 && decide ((n : Int) < (pc s : Nat))) && s.testBit x) (2 ^ kn k) = (anb (fun s => (anb (fun l => rr k w (fun _ _ => true) 0 10 s l) 10 && decide ((n : Int) < (pc s : Nat))) && s.testBit x) (2 ^ kn k) || ((anb (fun l => rr k w (fun _ _ => true) 0 10 (2 ^ kn k) l) 0 && decide ((n : Int) < (pc (2 ^ kn k) : Nat))) && (2 ^ kn k).testBit x)) := by
    have ez : anb (fun l => rr k w (fun _ _ => true) 0 10 (2 ^ kn k) l) 0 = false := rfl
    rw [ez, Bool.false_and, Bool.false_and, Bool.or_false]
    apply anb_cg
    intro s hs
    cases hp : decide ((n : Int) < (pc s : Nat)) with
    | false => simp
    | true =>
      rw [decide_eq_true_eq] at hp
      congr 1
      rw [Bool.and_true, Bool.and_true]
      apply Bool.eq_iff_iff.mpr
      rw [bne_iff_ne, anb_iff]
      constructor
      · intro hz
        cases ha : anb (fun l => rr k w (fun _ _ => true) 0 10 s l) 11 with
        | false => exact absurd (bm_no 11 (fun i hi => anb_f ha hi)) hz
        | true =>
          obtain ⟨l, h3, h4⟩ := anb_iff.mp ha
          refine ⟨l, ?_, h4⟩
          rcases (rr_in hk (Sok_0 k) h4).1.2 with z | z
          · rw [z.2] at hp
            have : pc 0 = 0 := rfl
            omega
          · have := hk.1
            omega
      · rintro ⟨l, h3, h4⟩ hz
        have := re_tb (k := k) (w := w) (A := fun _ _ => true) (s0 := 0) (l0 := 10) (s := s) (l := l) (by omega)
        rw [hz, h4, Nat.zero_testBit] at this
        cases this
  rw [e]
