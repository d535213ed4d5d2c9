/-! ## a sheet of prices: both sides -/
theorem w32_l (x y : Int) : w32 (w32 x + y) = w32 (x + y) := by
  unfold w32
  exact Int.bmod_add_bmod
theorem w32_rr (x y : Int) : w32 (x + w32 y) = w32 (x + y) := by
  unfold w32
  exact Int.add_bmod_bmod
def ent (c v : Int) : Int := if c = 0 then jb8 v else if c = 1 then js16 v else v
/-- the price of a DISH by a sheet -/
def shP (c n f t : Int) (x : Nat) : Nat := if (x : Int) < (if c = 3 then 0 else n) then (max 0 (min 99 (ent c (w32 (f + (x : Int) * t))))).toNat else 0
theorem shP_le (c n f t : Int) (x : Nat) : shP c n f t x ≤ 99 := by
  unfold shP
  by_cases h : (x : Int) < (if c = 3 then 0 else n)
  · rw [if_pos h]
    omega
  · rw [if_neg h]
    omega
/-- a kitchen whose first y DISHES have other prices -/
def kpr (k : Kt) (P : Nat → Nat) (y : Nat) : Kt := (kn k, kg k, kst k, fun x => if x < y then P x else kco k x, khe k, kho k, klo k, kba k)
theorem kpr_ok {k : Kt} (hk : Kok k) {P : Nat → Nat} (hP : ∀ x, P x ≤ 99) (y : Nat) : Kok (kpr k P y) := ⟨hk.1, hk.2.1, fun x hx => by
  obtain ⟨h1, h2, h3, h4⟩ := hk.2.2.1 x hx
  refine ⟨h1, h2, ?_, h4⟩
  show (if x < y then P x else kco k x) ≤ 99
  split
  · exact hP x
  · exact h3, hk.2.2.2⟩
theorem kpr_0 (k : Kt) (P : Nat → Nat) : kpr k P 0 = k := by
  have : (fun x => if x < 0 then P x else kco k x) = kco k := by
    funext x
    exact if_neg (Nat.not_lt_zero x)
  unfold kpr
  rw [this]
  rfl
theorem KI_pr {μ : jM} {k : Kt} {P : Nat → Nat} {y : Nat} (h : KI μ (kpr k P y)) (hP : ∀ x, P x ≤ 99) : KI (jup μ 5 (y : Int) (P y : Nat)) (kpr k P (y + 1)) := by
  obtain ⟨h1, h2, h3, h4, h5, h6⟩ := h
  refine ⟨⟨h1.1, h1.2.1, fun x hx => ?_, h1.2.2.2⟩, by rw [jup_ne (by decide)]; exact h2, by rw [jup_ne (by decide)]; exact h3, fun x hx => ?_, fun g hg => ?_, fun s hs => ?_⟩
  · obtain ⟨a1, a2, a3, a4⟩ := h1.2.2.1 x hx
    refine ⟨a1, a2, ?_, a4⟩
    have a3 : (if x < y then P x else kco k x) ≤ 99 := a3
    show (if x < y + 1 then P x else kco k x) ≤ 99
    split
    · exact hP x
    · rw [if_neg (by omega)] at a3
      exact a3
  · obtain ⟨a1, a2, a3, a4⟩ := h4 x hx
    rw [jup_ne (show (4 : Nat) ≠ 5 by decide), jup_ne (show (6 : Nat) ≠ 5 by decide), jup_ne (show (7 : Nat) ≠ 5 by decide)]
    refine ⟨a1, ?_, a3, a4⟩
    have a2 : μ 5 (x : Int) = ((if x < y then P x else kco k x : Nat) : Int) := a2
    show _ = ((if x < y + 1 then P x else kco k x : Nat) : Int)
    by_cases hxy : x = y
    · rw [hxy, jup_r, if_pos (by omega)]
    · rw [jup_m (by omega), a2]
      by_cases h7 : x < y
      · rw [if_pos h7, if_pos (by omega)]
      · rw [if_neg h7, if_neg (by omega)]
  · rw [jup_ne (show (8 : Nat) ≠ 5 by decide), jup_ne (show (9 : Nat) ≠ 5 by decide)]
    exact h5 g hg
  · rw [jup_ne (show (10 : Nat) ≠ 5 by decide)]
    exact h6 s hs
theorem KR_pr {μ : jM} {k : Kt} {P : Nat → Nat} {y : Nat} (h : KR μ (kpr k P y)) (hP : ∀ x, P x ≤ 99) : KR (jup μ 72 (y : Int) (P y : Nat)) (kpr k P (y + 1)) := by
  obtain ⟨h1, h2, h3, h4, h5⟩ := h
  refine ⟨⟨h1.1, h1.2.1, fun x hx => ?_, h1.2.2.2⟩, by rw [jup_ne (by decide)]; exact h2, by rw [jup_ne (by decide)]; exact h3, fun x hx => ?_, fun g hg => ?_⟩
  · obtain ⟨a1, a2, a3, a4⟩ := h1.2.2.1 x hx
    refine ⟨a1, a2, ?_, a4⟩
    have a3 : (if x < y then P x else kco k x) ≤ 99 := a3
    show (if x < y + 1 then P x else kco k x) ≤ 99
    split
    · exact hP x
    · rw [if_neg (by omega)] at a3
      exact a3
  · obtain ⟨a1, a2, a3, a4⟩ := h4 x hx
    rw [jup_ne (show (71 : Nat) ≠ 72 by decide), jup_ne (show (73 : Nat) ≠ 72 by decide), jup_ne (show (74 : Nat) ≠ 72 by decide)]
    refine ⟨a1, ?_, a3, a4⟩
    have a2 : μ 72 (x : Int) = ((if x < y then P x else kco k x : Nat) : Int) := a2
    show _ = ((if x < y + 1 then P x else kco k x : Nat) : Int)
    by_cases hxy : x = y
    · rw [hxy, jup_r, if_pos (by omega)]
    · rw [jup_m (by omega), a2]
      by_cases h7 : x < y
      · rw [if_pos h7, if_pos (by omega)]
      · rw [if_neg h7, if_neg (by omega)]
  · rw [jup_ne (show (75 : Nat) ≠ 72 by decide), jup_ne (show (76 : Nat) ≠ 72 by decide)]
    exact h5 g hg
def shA (k : Kt) (c n f t : Int) : Int := if 0 ≤ c ∧ c ≤ 3 ∧ n ≤ 10 then (if c < 3 ∧ n < 0 then -2 else if c = 3 then -3 else sm (fun x => (shP c n f t x : Int)) (kn k)) else -1
def shK (k : Kt) (c n f t : Int) : Kt := if (0 ≤ c ∧ c ≤ 3 ∧ n ≤ 10) ∧ ¬ (c < 3 ∧ n < 0) then kpr k (shP c n f t) (kn k) else k
theorem shS_b (c n f t : Int) : ∀ x : Nat, 0 ≤ sm (fun x => (shP c n f t x : Int)) x ∧ sm (fun x => (shP c n f t x : Int)) x ≤ 99 * x
  | 0 => ⟨Int.le_refl 0, Int.le_refl 0⟩
  | x + 1 => by
    have h1 := shS_b c n f t x
    have h2 := shP_le c n f t x
    show 0 ≤ sm (fun x => (shP c n f t x : Int)) x + (shP c n f t x : Int) ∧ sm (fun x => (shP c n f t x : Int)) x + (shP c n f t x : Int) ≤ 99 * ((x + 1 : Nat) : Int)
    omega
theorem c_X11_sheet (d : Nat) {μ : jM} {k : Kt} (hk : KI μ k) (c n f t : Int) : ∃ μ', CL (d + 3) 154 [jR 0, jI c, jI n, jI f, jI t] μ = rI (shA k c n f t) μ' ∧ (∀ q, q ≠ 5 → μ' q = μ q) ∧ KI μ' (shK k c n f t) := by
  have h10 := hk.1.1
  rw [e_X11_sheet]
  unfold shA shK
  by_cases hc : 0 ≤ c ∧ c ≤ 3 ∧ n ≤ 10
  · rw [if_pos hc, if_neg (show ¬ c < 0 by omega), if_neg (show ¬ (3 : Int) < c by omega), if_neg (show ¬ (10 : Int) < n by omega)]
    by_cases hn : c < 3 ∧ n < 0
    · rw [if_pos hn.1, if_pos hn.2, if_pos hn, if_neg (fun z => z.2 hn)]
      exact ⟨μ, rfl, fun _ _ => rfl, hk⟩
    · rw [if_neg hn, if_pos (show (0 ≤ c ∧ c ≤ 3 ∧ n ≤ 10) ∧ ¬ (c < 3 ∧ n < 0) from ⟨hc, hn⟩)]
      -- how many entries there are
      have hP := shP_le c n f t
      have run : ∀ e : Int, e = (if c = 3 then 0 else n) → ∃ μ', EV (d + 2) T_X11_sheet 1 [some (jR 0), some (jI c), none, some (jI f), some (jI t), some (jI e), some (jI 0), some (jI 0)] [] μ = rI (if c = 3 then -3 else sm (fun x => (shP c n f t x : Int)) (kn k)) μ' ∧ (∀ q, q ≠ 5 → μ' q = μ q) ∧ KI μ' (kpr k (shP c n f t) (kn k)) := fun e he => by
        obtain ⟨m, e1, f1, k1⟩ := lp_i (fun (x : Nat) (m : jM) => EV (d + 2) T_X11_sheet 1 [some (jR 0), some (jI c), none, some (jI f), some (jI t), some (jI e), some (jI (sm (fun x => (shP c n f t x : Int)) x)), some (jI x)] [] m) (fun x m => (∀ q, q ≠ 5 → m q = μ q) ∧ KI m (kpr k (shP c n f t) x)) (kn k) (fun x m hx h => by
          have fm : ∀ q, q ≠ 5 → m q = μ q := h.1
          have km : KI m (kpr k (shP c n f t) x) := h.2
          have hsb := shS_b c n f t x
          have hPx := hP x
          have k2 := KI_pr km hP
          have vp : CL (d + 2) 24 [jR 3, jI (x : Int), jI (shP c n f t x : Nat)] m = rV (jup m 5 (x : Int) (shP c n f t x : Nat)) := by
            rw [e_X1_price, c_X1_hasDish _ km, bI_r, if_pos (show 0 ≤ (x : Int) ∧ (x : Int) < ((kn (kpr k (shP c n f t) x) : Nat) : Int) from ⟨by omega, by show (x : Int) < (kn k : Int); omega⟩), if_neg (by decide), gd_t (by omega)]
          have vc : CL (d + 2) 15 [jR 3, jI (x : Int)] (jup m 5 (x : Int) (shP c n f t x : Nat)) = rI (shP c n f t x : Nat) (jup m 5 (x : Int) (shP c n f t x : Nat)) := by
            have := c_X1_costOf d k2 x (show x < kn k from hx)
            rw [this]
            show rI ((if x < x + 1 then shP c n f t x else kco k x : Nat) : Int) _ = _
            rw [if_pos (by omega)]
          have dn : CL (d + 2) 9 [jR 3] m = rI (kn k : Int) m := by
            rw [e_X1_dishes]
            exact congrArg (fun z => rI z m) km.2.1
          refine ⟨jup m 5 (x : Int) (shP c n f t x : Nat), ?_, fun q hq => (jup_ne hq).trans (fm q hq), k2⟩
          show EV (d + 2) T_X11_sheet 1 [some (jR 0), some (jI c), none, some (jI f), some (jI t), some (jI e), some (jI (sm (fun x => (shP c n f t x : Int)) x)), some (jI x)] [] m = EV (d + 2) T_X11_sheet 1 [some (jR 0), some (jI c), none, some (jI f), some (jI t), some (jI e), some (jI (sm (fun x => (shP c n f t x : Int)) x + (shP c n f t x : Int))), some (jI (x + 1 : Nat))] [] _
          rw [e_X11_sheet_1, dn, bI_r, if_pos (by omega), w_s x (by omega)]
          by_cases hxe : (x : Int) < e
          · have hv : max 0 (min 99 (ent c (w32 (f + (x : Int) * t)))) = (shP c n f t x : Int) := by
              unfold shP
              rw [if_pos (by rw [← he]; exact hxe)]
              omega
            have ha : CL (d + 2) 155 [jI c, jI (w32 (f + w32 ((x : Int) * t)))] m = rI (shP c n f t x : Int) m := by
              rw [e_X11_asEntry, w32_rr, ← hv]
              unfold ent
              by_cases c0 : c = 0
              · rw [if_pos c0, if_pos c0]
              · rw [if_neg c0, if_neg c0]
                by_cases c1 : c = 1
                · rw [if_pos c1, if_pos c1]
                · rw [if_neg c1, if_neg c1]
            rw [if_pos hxe, ha, bI_r, vp, bV_r, vc, bI_r, w_id (by omega) (by omega)]
          · have hv : shP c n f t x = 0 := by
              unfold shP
              rw [if_neg (by rw [← he]; exact hxe)]
            rw [hv] at vp vc ⊢
            rw [if_neg hxe, show (CL (d + 2) 24 [jR 3, jI (x : Int), jI 0] m) = rV (jup m 5 (x : Int) ((0 : Nat) : Int)) from vp, bV_r, vc, bI_r, w_id (by omega) (by omega)]) μ ⟨fun _ _ => rfl, by rw [kpr_0]; exact hk⟩
        have k1 : KI m (kpr k (shP c n f t) (kn k)) := k1
        have dn : CL (d + 2) 9 [jR 3] m = rI (kn k : Int) m := by
          rw [e_X1_dishes]
          exact congrArg (fun z => rI z m) k1.2.1
        refine ⟨m, e1.trans ?_, f1, k1⟩
        show EV (d + 2) T_X11_sheet 1 [some (jR 0), some (jI c), none, some (jI f), some (jI t), some (jI e), some (jI (sm (fun x => (shP c n f t x : Int)) (kn k))), some (jI (kn k))] [] m = _
        rw [e_X11_sheet_1, dn, bI_r, if_neg (by omega)]
        by_cases h3 : c = 3
        · rw [if_pos h3, if_pos h3]
        · rw [if_neg h3, if_neg h3]
      by_cases h3 : c = 3
      · obtain ⟨μ', e', f', k'⟩ := run 0 (if_pos h3).symm
        rw [if_neg (show ¬ c < 3 by omega), if_pos h3]
        exact ⟨μ', e', f', k'⟩
      · obtain ⟨μ', e', f', k'⟩ := run n (if_neg h3).symm
        rw [if_pos (show c < 3 by omega), if_neg (show ¬ n < 0 by omega), if_neg h3]
        exact ⟨μ', e', f', k'⟩
  · rw [if_neg (show ¬ (0 ≤ c ∧ c ≤ 3 ∧ n ≤ 10) from hc), if_neg (show ¬ ((0 ≤ c ∧ c ≤ 3 ∧ n ≤ 10) ∧ ¬ (c < 3 ∧ n < 0)) from fun z => hc z.1)]
    refine ⟨μ, ?_, fun _ _ => rfl, hk⟩
    by_cases h1 : c < 0
    · rw [if_pos h1]
    · rw [if_neg h1]
      by_cases h2 : (3 : Int) < c
      · rw [if_pos h2]
      · rw [if_neg h2, if_pos (show (10 : Int) < n by omega)]
theorem c_X12_sheet (d : Nat) {μ : jM} {k : Kt} (hk : KR μ k) (c n f t : Int) (hf : -2147483648 ≤ f ∧ f ≤ 2147483647) : ∃ μ', CL (d + 2) 238 [jR 69, jI c, jI n, jI f, jI t] μ = rI (shA k c n f t) μ' ∧ ((∀ q, q ≠ 69 → q ≠ 72 → μ' q = μ q) ∧ ∀ j : Int, j ≠ 20 → μ' 69 j = μ 69 j) ∧ KR μ' (shK k c n f t) := by
  have h10 := hk.1.1
  have hk0 := th0_KR hk
  let m0 : jM := jup μ 69 20 0
  have f0 : (∀ q, q ≠ 69 → q ≠ 72 → m0 q = μ q) ∧ ∀ j : Int, j ≠ 20 → m0 69 j = μ 69 j := ⟨fun q a _ => jup_ne a, fun j hj => jup_m hj⟩
  rw [e_X12_sheet, c_X12_in, bI_r]
  unfold shA shK
  by_cases hc3 : 0 ≤ c ∧ c ≤ 3
  · rw [if_pos hc3, if_neg (by decide)]
    by_cases hn10 : (10 : Int) < n
    · rw [if_pos hn10, if_neg (show ¬ (0 ≤ c ∧ c ≤ 3 ∧ n ≤ 10) by omega), if_neg (show ¬ ((0 ≤ c ∧ c ≤ 3 ∧ n ≤ 10) ∧ ¬ (c < 3 ∧ n < 0)) by omega)]
      exact ⟨m0, rfl, f0, hk0⟩
    · have hc : 0 ≤ c ∧ c ≤ 3 ∧ n ≤ 10 := by omega
      rw [if_neg hn10, if_pos hc]
      by_cases hn : c < 3 ∧ n < 0
      · rw [if_pos hn.1, if_pos hn.2, if_pos hn, if_neg (show ¬ ((0 ≤ c ∧ c ≤ 3 ∧ n ≤ 10) ∧ ¬ (c < 3 ∧ n < 0)) from fun z => z.2 hn)]
        exact ⟨m0, rfl, f0, hk0⟩
      · rw [if_neg hn, if_pos (show (0 ≤ c ∧ c ≤ 3 ∧ n ≤ 10) ∧ ¬ (c < 3 ∧ n < 0) from ⟨hc, hn⟩)]
        have hP := shP_le c n f t
        obtain ⟨m, e1, f1, k1⟩ := lp_i (fun (x : Nat) (m : jM) => EV (d + 1) T_X12_sheet 1 [some (jR 69), some (jI c), some (jI n), none, some (jI t), some (jI (sm (fun x => (shP c n f t x : Int)) x)), some (jI (w32 (f + (x : Int) * t))), some (jI x), none] [] m) (fun x m => (∀ q, q ≠ 72 → m q = m0 q) ∧ KR m (kpr k (shP c n f t) x)) (kn k) (fun x m hx h => by
          have fm : ∀ q, q ≠ 72 → m q = m0 q := h.1
          have km : KR m (kpr k (shP c n f t) x) := h.2
          have hsb := shS_b c n f t x
          have hPx := hP x
          have k2 := KR_pr km hP
          have dn : m 69 1 = (kn k : Int) := km.2.1
          have ew : w32 (w32 (f + (x : Int) * t) + t) = w32 (f + ((x + 1 : Nat) : Int) * t) := by
            rw [w32_l]
            congr 1
            have : ((x + 1 : Nat) : Int) * t = (x : Int) * t + t := by
              rw [Int.natCast_add, Int.add_mul]
              omega
            omega
          have fin : ∀ v : Int, v = (shP c n f t x : Int) → gd (0 ≤ (x : Int) ∧ (x : Int) < 11) (gd (0 ≤ (x : Int) ∧ (x : Int) < 11) (EV (d + 1) T_X12_sheet 1 [some (jR 69), some (jI c), some (jI n), none, some (jI t), some (jI (w32 (sm (fun x => (shP c n f t x : Int)) x + (jup m 72 (x : Int) v 72 (x : Int))))), some (jI (w32 (w32 (f + (x : Int) * t) + t))), some (jI (w32 ((x : Int) + 1))), none] [] (jup m 72 (x : Int) v))) = EV (d + 1) T_X12_sheet 1 [some (jR 69), some (jI c), some (jI n), none, some (jI t), some (jI (sm (fun x => (shP c n f t x : Int)) x + (shP c n f t x : Int))), some (jI (w32 (f + ((x + 1 : Nat) : Int) * t))), some (jI (x + 1 : Nat)), none] [] (jup m 72 (x : Int) (shP c n f t x : Nat)) := fun v hv => by
            rw [gd_t (by omega), gd_t (by omega), jup_r, hv, w_id (x := sm (fun x => (shP c n f t x : Int)) x + (shP c n f t x : Int)) (by omega) (by omega), ew, w_s x (by omega)]
          refine ⟨jup m 72 (x : Int) (shP c n f t x : Nat), ?_, fun q hq => (jup_ne hq).trans (fm q hq), k2⟩
          show EV (d + 1) T_X12_sheet 1 [some (jR 69), some (jI c), some (jI n), none, some (jI t), some (jI (sm (fun x => (shP c n f t x : Int)) x)), some (jI (w32 (f + (x : Int) * t))), some (jI x), none] [] m = EV (d + 1) T_X12_sheet 1 [some (jR 69), some (jI c), some (jI n), none, some (jI t), some (jI (sm (fun x => (shP c n f t x : Int)) x + (shP c n f t x : Int))), some (jI (w32 (f + ((x + 1 : Nat) : Int) * t))), some (jI (x + 1 : Nat)), none] [] _
          rw [e_X12_sheet_1, dn, if_pos (by omega)]
          have z0 : (c = 3 ∨ ¬ (x : Int) < n) → (0 : Int) = (shP c n f t x : Int) := fun hz => by
            unfold shP
            rw [if_neg (by
              by_cases h3 : c = 3
              · rw [if_pos h3]
                omega
              · rw [if_neg h3]
                omega)]
            rfl
          have zp : c ≠ 3 → (x : Int) < n → max 0 (min 99 (ent c (w32 (f + (x : Int) * t)))) = (shP c n f t x : Int) := fun h3 hz => by
            unfold shP
            rw [if_pos (by rw [if_neg h3]; exact hz)]
            omega
          by_cases c0 : c = 0
          · rw [if_pos c0, if_neg (show ¬ c = 3 by omega)]
            by_cases hz : (x : Int) < n
            · rw [if_pos hz]
              have := zp (by omega) hz
              unfold ent at this
              rw [if_pos c0] at this
              exact fin _ this
            · rw [if_neg hz]
              exact fin 0 (z0 (Or.inr hz))
          · rw [if_neg c0]
            by_cases c1 : c = 1
            · rw [if_pos c1, if_neg (show ¬ c = 3 by omega)]
              by_cases hz : (x : Int) < n
              · rw [if_pos hz]
                have := zp (by omega) hz
                unfold ent at this
                rw [if_neg c0, if_pos c1] at this
                exact fin _ this
              · rw [if_neg hz]
                exact fin 0 (z0 (Or.inr hz))
            · rw [if_neg c1]
              by_cases h3 : c = 3
              · rw [if_pos h3]
                exact fin 0 (z0 (Or.inl h3))
              · rw [if_neg h3]
                by_cases hz : (x : Int) < n
                · rw [if_pos hz]
                  have := zp h3 hz
                  unfold ent at this
                  rw [if_neg c0, if_neg c1] at this
                  exact fin _ this
                · rw [if_neg hz]
                  exact fin 0 (z0 (Or.inr hz))) m0 ⟨fun _ _ => rfl, by rw [kpr_0]; exact hk0⟩
        have f1 : ∀ q, q ≠ 72 → m q = m0 q := f1
        have k1 : KR m (kpr k (shP c n f t) (kn k)) := k1
        have ew0 : w32 (f + ((0 : Nat) : Int) * t) = f := by
          rw [show f + ((0 : Nat) : Int) * t = f by rw [show ((0 : Nat) : Int) = 0 from rfl, Int.zero_mul, Int.add_zero]]
          exact w_id hf.1 hf.2
        have run : EV (d + 1) T_X12_sheet 1 [some (jR 69), some (jI c), some (jI n), none, some (jI t), some (jI 0), some (jI f), some (jI 0), none] [] m0 = rI (if c = 3 then -3 else sm (fun x => (shP c n f t x : Int)) (kn k)) m := by
          have e2 : EV (d + 1) T_X12_sheet 1 [some (jR 69), some (jI c), some (jI n), none, some (jI t), some (jI 0), some (jI (w32 (f + ((0 : Nat) : Int) * t))), some (jI (0 : Nat)), none] [] m0 = EV (d + 1) T_X12_sheet 1 [some (jR 69), some (jI c), some (jI n), none, some (jI t), some (jI (sm (fun x => (shP c n f t x : Int)) (kn k))), some (jI (w32 (f + ((kn k : Nat) : Int) * t))), some (jI (kn k)), none] [] m := e1
          rw [ew0] at e2
          refine e2.trans ?_
          have dn : m 69 1 = (kn k : Int) := k1.2.1
          rw [e_X12_sheet_1, dn, if_neg (by omega)]
          by_cases h3 : c = 3
          · rw [if_pos h3, if_pos h3]
          · rw [if_neg h3, if_neg h3]
        refine ⟨m, ?_, ⟨fun q a b => (f1 q b).trans (f0.1 q a b), fun j hj => by rw [f1 69 (by decide)]; exact f0.2 j hj⟩, k1⟩
        by_cases h3 : c < 3
        · rw [if_pos h3, if_neg (show ¬ n < 0 by omega)]
          exact run
        · rw [if_neg h3]
          exact run
  · rw [if_neg hc3, if_pos rfl, if_neg (show ¬ (0 ≤ c ∧ c ≤ 3 ∧ n ≤ 10) by omega), if_neg (show ¬ ((0 ≤ c ∧ c ≤ 3 ∧ n ≤ 10) ∧ ¬ (c < 3 ∧ n < 0)) by omega)]
    exact ⟨m0, rfl, f0, hk0⟩
