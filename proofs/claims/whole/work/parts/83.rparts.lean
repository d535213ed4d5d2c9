/-! ## the parts: the reference -/
theorem low1 : ∀ r : Nat, r < 1024 → r ≠ 0 → jand (r : Int) (w32 (-(r : Int))) = ((2 ^ fs (fun z => r.testBit z) 10 : Nat) : Int) := by decide +kernel
/-- what is beside one of a set, and the set -/
def rnd (k : Kt) (sh t u : Nat) : Nat → Nat
  | 0 => u
  | y + 1 => if t.testBit y then rnd k sh t u y ||| ksh k sh y else rnd k sh t u y
theorem rnd_lt {k : Kt} {sh t u : Nat} (h : u < 2 ^ kn k) : ∀ y, rnd k sh t u y < 2 ^ kn k
  | 0 => h
  | y + 1 => by
    unfold rnd
    split
    · exact Nat.or_lt_two_pow (rnd_lt h y) (ksh_lt2 k sh y)
    · exact rnd_lt h y
theorem rnd_ge (k : Kt) (sh t u : Nat) : ∀ y, sbs u (rnd k sh t u y)
  | 0 => fun _ h => h
  | y + 1 => by
    unfold rnd
    split
    · exact sbs_t (rnd_ge k sh t u y) (sbs_l _ _)
    · exact rnd_ge k sh t u y
theorem rnd_in {k : Kt} {sh t u c : Nat} (hc : clo k sh c) (h1 : sbs t c) (h2 : sbs u c) : ∀ y, y ≤ kn k → sbs (rnd k sh t u y) c
  | 0, _ => h2
  | y + 1, hy => by
    have ih := rnd_in hc h1 h2 y (by omega)
    unfold rnd
    split
    · rename_i hb
      exact sbs_or ih (hc y (by omega) (h1 y hb))
    · exact ih
theorem rnd_has (k : Kt) (sh t u : Nat) {y : Nat} (hb : t.testBit y = true) : ∀ n, y < n → sbs (ksh k sh y) (rnd k sh t u n)
  | 0, h => absurd h (Nat.not_lt_zero y)
  | n + 1, h => by
    by_cases e : y = n
    · have : rnd k sh t u (n + 1) = rnd k sh t u n ||| ksh k sh n := if_pos (by rw [← e]; exact hb)
      rw [this, e]
      exact sbs_r _ _
    · have ih := rnd_has k sh t u hb n (by omega)
      unfold rnd
      split
      · exact sbs_t ih (sbs_l _ _)
      · exact ih
theorem rnd_fix {k : Kt} {sh t : Nat} (h : rnd k sh t t (kn k) = t) : clo k sh t := fun y hy hb => by
  have := rnd_has k sh t t hb (kn k) hy
  rw [h] at this
  exact this
theorem c_X12_parts_2 (d : Nat) {μ : jM} {k : Kt} {w : Lw} (hk : KR μ k) (hw : LR μ w) (rest c : Int) : ∀ (n t b : Nat), t < 2 ^ kn k → b ≠ t → kn k - pc t ≤ n → ∃ C, LCl k (lsh w) t C ∧ C < 2 ^ kn k ∧ EV (d + 3) T_X12_parts 2 [some (jR 69), some (jI rest), some (jI c), some (jI t), some (jI b), none] [] μ = EV (d + 3) T_X12_parts 2 [some (jR 69), some (jI rest), some (jI c), some (jI C), some (jI C), none] [] μ := by
  have h10 := hk.1.1
  have hN := p2_le h10
  have pass : ∀ t : Nat, t < 2 ^ kn k → EV (d + 3) T_X12_parts 3 [some (jR 69), some (jI rest), some (jI c), some (jI t), some (jI t), some (jI 0)] [] μ = EV (d + 3) T_X12_parts 2 [some (jR 69), some (jI rest), some (jI c), some (jI (rnd k (lsh w) t t (kn k) : Nat)), some (jI t), none] [] μ := fun t ht => by
    refine Eq.trans (lp_0 (fun y : Nat => EV (d + 3) T_X12_parts 3 [some (jR 69), some (jI rest), some (jI c), some (jI (rnd k (lsh w) t t y : Nat)), some (jI t), some (jI y)] [] μ) (kn k) (fun y hy => ?_)) ?_
    · have hp := rnd_lt (sh := lsh w) (t := t) ht y
      have hq := ksh_lt2 k (lsh w) y
      have e : rnd k (lsh w) t t (y + 1) = if t.testBit y then rnd k (lsh w) t t y ||| ksh k (lsh w) y else rnd k (lsh w) t t y := rfl
      rw [e_X12_parts_3, hk.2.1, if_pos (by omega), c_X12_has _ _ t y (by omega) (by omega), bI_r, w_s y (by omega), e]
      cases t.testBit y with
      | false => rw [z_f, if_neg (by decide)]
      | true => rw [z_t, if_pos rfl, c_X12_besides _ hk hw y hy, bI_r, or_nn _ _ (by omega) (by omega)]
    · show EV (d + 3) T_X12_parts 3 [some (jR 69), some (jI rest), some (jI c), some (jI (rnd k (lsh w) t t (kn k) : Nat)), some (jI t), some (jI (kn k))] [] μ = _
      rw [e_X12_parts_3, hk.2.1, if_neg (by omega)]
  intro n
  induction n with
  | zero =>
    intro t b ht hb hn
    have hp := pc_le ht (by omega)
    have hr : rnd k (lsh w) t t (kn k) = t := by
      by_cases e : t = rnd k (lsh w) t t (kn k)
      · exact e.symm
      · have h1 := (sbs_p (n := kn k) (by omega) _ t _ (rnd_lt ht (kn k)) (rnd_ge k (lsh w) t t (kn k)) (Nat.le_refl _)).2 e
        have h2 := pc_le (rnd_lt (k := k) (sh := lsh w) (t := t) ht (kn k)) (by omega)
        omega
    refine ⟨t, ⟨fun _ h => h, rnd_fix hr, fun _ _ h => h⟩, ht, ?_⟩
    rw [e_X12_parts_2, if_neg (by omega), pass t ht, hr]
  | succ n ih =>
    intro t b ht hb hn
    by_cases e : t = rnd k (lsh w) t t (kn k)
    · refine ⟨t, ⟨fun _ h => h, rnd_fix e.symm, fun _ _ h => h⟩, ht, ?_⟩
      rw [e_X12_parts_2, if_neg (by omega), pass t ht, ← e]
    · have h1 := (sbs_p (n := kn k) (by omega) _ t _ (rnd_lt ht (kn k)) (rnd_ge k (lsh w) t t (kn k)) (Nat.le_refl _)).2 e
      obtain ⟨C, hL, hC, h2⟩ := ih (rnd k (lsh w) t t (kn k)) t (rnd_lt ht _) e (by omega)
      refine ⟨C, ⟨sbs_t (rnd_ge k (lsh w) t t (kn k)) hL.1, hL.2.1, fun x hx hxs => hL.2.2 x hx (rnd_in hx hxs hxs _ (Nat.le_refl _))⟩, hC, ?_⟩
      rw [e_X12_parts_2, if_neg (by omega), pass t ht]
      exact h2
theorem c_X12_parts (d : Nat) {μ : jM} {k : Kt} {w : Lw} (hk : KR μ k) (hw : LR μ w) : ∃ μ', CL (d + 4) 278 [jR 69] μ = rI ((prw k (lsh w) (kn k)).length : Nat) μ' ∧ fR μ' μ ∧ RR μ' (prw k (lsh w) (kn k)) := by
  have hko := hk.1
  have h10 := hko.1
  have hN := p2_le h10
  have h2p := Nat.two_pow_pos (kn k)
  let m0 : jM := jup (jup μ 69 20 0) 69 19 0
  have c0 : fR m0 μ := fR_t (fR_0 μ) (fR_19 _ 0)
  let rs : Nat → Nat := fun x => nd (2 ^ kn k - 1) (psn k (lsh w) x)
  have rslt : ∀ x, rs x < 2 ^ kn k := fun x => by
    have := nd_le (2 ^ kn k - 1) (psn k (lsh w) x)
    show nd (2 ^ kn k - 1) (psn k (lsh w) x) < _
    omega
  have rstb : ∀ x z, (rs x).testBit z = (decide (z < kn k) && !(psn k (lsh w) x).testBit z) := fun x z => by
    show (nd (2 ^ kn k - 1) (psn k (lsh w) x)).testBit z = _
    rw [nd_tb]
    congr 1
    by_cases hz : z < kn k
    · rw [sall hz, decide_eq_true hz]
    · rw [tb_hi (n := kn k) (by omega) (by omega), decide_eq_false hz]
  obtain ⟨μ2, e2, f2, r2⟩ := lp_i (fun (x : Nat) (m : jM) => EV (d + 3) T_X12_parts 1 [some (jR 69), some (jI (rs x : Nat)), some (jI ((prw k (lsh w) x).length : Nat)), none, none, none] [] m) (fun x m => fR m μ ∧ RR m (prw k (lsh w) x)) (kn k) (fun x m hx h => by
    have fm : fR m μ := h.1
    have rm : RR m (prw k (lsh w) x) := h.2
    have km := fR_KR fm hk
    have wm := fR_LR fm hw
    have hl := prw_len k (lsh w) x
    have ep : psn k (lsh w) (x + 1) = if (psn k (lsh w) x).testBit x then psn k (lsh w) x else psn k (lsh w) x ||| cmp k (lsh w) x := rfl
    have er : prw k (lsh w) (x + 1) = if (psn k (lsh w) x).testBit x then prw k (lsh w) x else prw k (lsh w) x ++ [(cmp k (lsh w) x : Int)] := rfl
    show ∃ s', EV (d + 3) T_X12_parts 1 [some (jR 69), some (jI (rs x : Nat)), some (jI ((prw k (lsh w) x).length : Nat)), none, none, none] [] m = EV (d + 3) T_X12_parts 1 [some (jR 69), some (jI (rs (x + 1) : Nat)), some (jI ((prw k (lsh w) (x + 1)).length : Nat)), none, none, none] [] s' ∧ fR s' μ ∧ RR s' (prw k (lsh w) (x + 1))
    cases hb : (psn k (lsh w) x).testBit x with
    | true =>
      rw [hb, if_pos rfl] at ep er
      have e3 : rs (x + 1) = rs x := by
        show nd _ (psn k (lsh w) (x + 1)) = nd _ (psn k (lsh w) x)
        rw [ep]
      rw [er, e3]
      exact ⟨m, rfl, fm, rm⟩
    | false =>
      rw [hb, if_neg (by decide)] at ep er
      have hrx : (rs x).testBit x = true := by rw [rstb, decide_eq_true hx, hb]; rfl
      have hne : rs x ≠ 0 := fun z => by
        rw [z, Nat.zero_testBit] at hrx
        cases hrx
      have hfs : fs (fun z => (rs x).testBit z) 10 = x := by
        obtain ⟨g1, g2, g3⟩ := fs_spec (fun z => (rs x).testBit z) 10
        have hlt : fs (fun z => (rs x).testBit z) 10 ≤ x := by
          by_cases q : fs (fun z => (rs x).testBit z) 10 ≤ x
          · exact q
          · have := g2 x (by omega)
            rw [hrx] at this
            cases this
        by_cases q : fs (fun z => (rs x).testBit z) 10 = x
        · exact q
        · exfalso
          have h5 := g3 (by omega)
          have h5 : (rs x).testBit (fs (fun z => (rs x).testBit z) 10) = true := h5
          rw [rstb, psn_all hko (lsh w) x (by omega) _ (by omega)] at h5
          simp at h5
      have hr := rslt x
      have h2x : 2 ^ x < 2 ^ kn k := Nat.pow_lt_pow_right (by decide) hx
      have h2xp := Nat.two_pow_pos x
      obtain ⟨C, hL, hC, h6⟩ := c_X12_parts_2 d km wm (rs x : Nat) ((prw k (lsh w) x).length : Nat) (kn k) (2 ^ x) 0 h2x (by omega) (by omega)
      have eC : C = cmp k (lsh w) x := LCl_u hL (cmp_L hko (lsh w) hx)
      subst eC
      obtain ⟨m2, g2, k2, j2, l2⟩ := c_X12_tell (d + 2) rm (cmp k (lsh w) x : Nat) (by omega)
      have er2 : rs (x + 1) = nd (rs x) (cmp k (lsh w) x) := by
        apply Nat.eq_of_testBit_eq
        intro z
        rw [rstb, nd_tb, rstb, ep, Nat.testBit_or]
        cases decide (z < kn k) <;> cases (psn k (lsh w) x).testBit z <;> cases (cmp k (lsh w) x).testBit z <;> rfl
      refine ⟨m2, ?_, fR_t fm (fR_row k2 j2), ?_⟩
      · have h6' : EV (d + 3) T_X12_parts 2 [some (jR 69), some (jI (rs x : Nat)), some (jI ((prw k (lsh w) x).length : Nat)), some (jI (2 ^ x : Nat)), some (jI 0), none] [] m = _ := h6
        rw [e_X12_parts_1, if_neg (show ¬ (rs x : Int) = 0 by omega), low1 _ (by omega) hne, hfs, h6', e_X12_parts_2, if_pos rfl, g2, bV_r, xor_m1 _ (by omega), and_nc _ _ (by omega) (by omega), w_s _ (by omega), er2, er, List.length_append]
        rfl
      · rw [er]
        exact l2) m0 ⟨c0, RR_0 _⟩
  have f2 : fR μ2 μ := f2
  have r2 : RR μ2 (prw k (lsh w) (kn k)) := r2
  have ers : rs (kn k) = 0 := by
    apply Nat.eq_of_testBit_eq
    intro z
    rw [rstb, Nat.zero_testBit]
    by_cases hz : z < kn k
    · rw [psn_all hko (lsh w) (kn k) (Nat.le_refl _) z hz, Bool.not_true, Bool.and_false]
    · rw [decide_eq_false hz, Bool.false_and]
  have er0 : rs 0 = 2 ^ kn k - 1 := by
    show (2 ^ kn k - 1) ^^^ ((2 ^ kn k - 1) &&& 0) = _
    rw [Nat.and_zero, Nat.xor_zero]
  refine ⟨μ2, ?_, f2, r2⟩
  rw [e_X12_parts, c_X12_all _ (th0_KR hk), bI_r, ← er0]
  refine Eq.trans e2 ?_
  show EV (d + 3) T_X12_parts 1 [some (jR 69), some (jI (rs (kn k) : Nat)), some (jI ((prw k (lsh w) (kn k)).length : Nat)), none, none, none] [] μ2 = _
  rw [e_X12_parts_1, ers, if_pos (show ((0 : Nat) : Int) = 0 from rfl)]
