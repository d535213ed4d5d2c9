/-! ## calls that change the state -/
theorem c_X11_rule (d : Nat) {μ : jM} {t ru : List Nat} (ht : TC μ t) (hr : TaC μ ru) : ∃ μ', CL (d + 42) 148 [jR 0] μ = rI (ruA t) μ' ∧ (∀ q, q ≠ 1 → q ≠ 12 → q ≠ 13 → q ≠ 14 → μ' q = μ q) ∧ TC μ' [] ∧ TaC μ' (ruT ru t) := by
  obtain ⟨μ1, e1, f1, -, h1⟩ := c_X9_read d ht hr
  refine ⟨jup μ1 1 1 0, ?_, fun q a b c e => (jup_ne a).trans (f1 q b c e), TC_0 t, TaC_cg h1 (jup_nf (by decide)) (jup_ne (by decide))⟩
  rw [e_X11_rule, e1, bI_r, e_X10_clear, bV_r]
theorem lin_kn {ch : Nat → Int} {k : Kt} {p : Nat} {z : Kt × Nat} (h : lin ch k p = Sum.inr z) : kn k ≤ kn z.1 := by
  unfold lin at h
  by_cases h71 : ch p = 71
  · rw [if_pos h71] at h
    by_cases hg : kg k < 6
    · rw [if_pos hg] at h
      unfold lnG at h
      by_cases h45 : ch (rg1 ch p) = 45
      · rw [if_pos h45] at h
        cases h
        exact Nat.le_refl (kn k)
      · rw [if_neg h45] at h
        cases h
    · rw [if_neg hg] at h
      cases h
  · rw [if_neg h71] at h
    by_cases hl : (isl (ch p) && decide (kn k < 10)) = true
    · rw [if_pos hl] at h
      unfold lnD at h
      by_cases hd : isd (ch (rq1 ch p)) = true
      · rw [if_pos hd] at h
        by_cases h43 : ch (rq3 ch p) = 43
        · rw [if_pos h43] at h
          by_cases h2 : isd (ch (rq3 ch p + 1)) = true
          · rw [if_pos h2] at h
            cases h
            exact Nat.le_succ (kn k)
          · rw [if_neg h2] at h
            cases h
        · rw [if_neg h43] at h
          cases h
          exact Nat.le_succ (kn k)
      · rw [if_neg hd] at h
        cases h
    · rw [if_neg hl] at h
      cases h
theorem kpa_kn {ch : Nat → Int} {L : Nat} : ∀ (r : Nat) (k : Kt) (p n : Nat) (z : Kt × Nat), kpa ch L r k p n = Sum.inr z → kn k ≤ kn z.1
  | 0, k, p, n, z, h => by cases h
  | r + 1, k, p, n, z, h => by
    have h : (match lin ch k p with
      | Sum.inl q => Sum.inl q
      | Sum.inr y => if ch y.2 = 59 then kpa ch L r y.1 (y.2 + 1) (n + 1) else if y.2 < L then Sum.inl y.2 else Sum.inr (y.1, n + 1) : Nat ⊕ (Kt × Nat)) = Sum.inr z := h
    cases hx : lin ch k p with
    | inl q =>
      rw [hx] at h
      cases h
    | inr y =>
      rw [hx] at h
      have h1 := lin_kn hx
      have h : (if ch y.2 = 59 then kpa ch L r y.1 (y.2 + 1) (n + 1) else if y.2 < L then Sum.inl y.2 else Sum.inr (y.1, n + 1) : Nat ⊕ (Kt × Nat)) = Sum.inr z := h
      by_cases h59 : ch y.2 = 59
      · rw [if_pos h59] at h
        exact Nat.le_trans h1 (kpa_kn r _ _ _ _ h)
      · rw [if_neg h59] at h
        by_cases hL : y.2 < L
        · rw [if_pos hL] at h
          cases h
        · rw [if_neg hL] at h
          cases h
          exact h1
theorem kiK_kn (k : Kt) (t : List Nat) : kn k ≤ kn (kiK k t) := by
  unfold kiK
  cases hx : kiP k t with
  | inl q => exact Nat.le_refl _
  | inr z =>
    show kn k ≤ kn z.1
    unfold kiP at hx
    by_cases h0 : t.length = 0
    · rw [if_pos h0] at hx
      cases hx
      exact Nat.le_refl _
    · rw [if_neg h0] at hx
      exact kpa_kn _ _ _ _ _ hx
def kiC (k : Kt) (t : List Nat) (c : Nat) : Nat := if kn k < kn (kiK k t) then c + 1 else c
theorem kiC_49 {μ μ' : jM} {k : Kt} {t b : List Nat} {c : Nat} (hc : c ≤ kn k) (_ : Bok (kn k) b) (h10 : kn k ≤ 10) (h : μ 69 49 = (c : Int)) (h' : μ' 69 49 = if kn k < kn (kiK k t) then w32 (μ 69 49 + 1) else μ 69 49) : μ' 69 49 = (kiC k t c : Int) := by
  rw [h', h]
  unfold kiC
  by_cases hz : kn k < kn (kiK k t)
  · rw [if_pos hz, if_pos hz, w_s c (by omega)]
  · rw [if_neg hz, if_neg hz]
theorem Mok_mo {n n' : Nat} {m : List Nat} (h : Mok n m) (hn : n ≤ n') : Mok n' m := fun x hx => by
  have := h x hx
  omega
theorem kiO (k : Kt) (t : List Nat) {b : List Nat} {M : Mn} {K : Kp} {c : Nat} (h : oS k b M K c) : oS (kiK k t) b M K (kiC k t c) := by
  have hk := kiK_kn k t
  obtain ⟨h1, h2, h3, h4⟩ := h
  refine ⟨⟨h1.1, fun x hx => by have := h1.2 x hx; omega⟩, fun i hi => Mok_mo (h2 i hi) hk, ?_, fun i hi hp => ?_⟩
  · unfold kiC
    split <;> omega
  · obtain ⟨a1, a2, a3, a4⟩ := h4 i hi hp
    unfold kiC
    refine ⟨by omega, by split <;> omega, ?_, a4⟩
    by_cases hz : kn k < kn (kiK k t)
    · rw [if_pos hz]
      omega
    · rw [if_neg hz, show kn (kiK k t) = kn k by omega]
      exact a3
theorem shK_kn (k : Kt) (x n u v : Int) : kn (shK k x n u v) = kn k := by
  unfold shK
  split <;> rfl
theorem shO (k : Kt) (x n u v : Int) {b : List Nat} {M : Mn} {K : Kp} {c : Nat} (h : oS k b M K c) : oS (shK k x n u v) b M K c := by
  unfold oS Mkk Kok2 at h ⊢
  rw [shK_kn]
  exact h
theorem mnO {k : Kt} (h10 : kn k ≤ 10) {M : Mn} (h : Mkk k M) (t : List Nat) (x : Int) : Mkk k (mnM k t M x) := by
  unfold mnM
  split
  · rename_i hz
    intro i hi
    show Mok (kn k) (if i = x.toNat then mrl t else M i)
    split
    · exact mrl_ok h10 hz.2
    · exact h i hi
  · exact h
theorem swO {k : Kt} {M : Mn} (h : Mkk k M) (p : Bool) (a : Nat) (j i : Nat) : Mkk k (if p then mput M a (msw (M a) j i) else M) := by
  split
  · intro y hy
    show Mok (kn k) (if y = a then msw (M a) j i else M y)
    split
    · rename_i hz
      rw [← hz]
      exact msw_ok (h y hy) j i
    · exact h y hy
  · exact h
theorem tuO {k : Kt} {M : Mn} (h : Mkk k M) (p : Bool) (a : Nat) : Mkk k (if p then mput M a (mrv (M a)) else M) := by
  split
  · intro y hy
    show Mok (kn k) (if y = a then mrv (M a) else M y)
    split
    · rename_i hz
      rw [← hz]
      exact mrv_ok (h y hy)
    · exact h y hy
  · exact h
theorem agO {k : Kt} {b : List Nat} {K : Kp} {c : Nat} (hb : Bok (kn k) b) (h : Kok2 k c K) (x : Int) : Bok (kn k) (if agn k K x then kpb K x.toNat else b) := by
  by_cases hz : agn k K x = true
  · rw [if_pos hz]
    unfold agn at hz
    rw [Bool.and_eq_true, Bool.and_eq_true, decide_eq_true_eq, decide_eq_true_eq] at hz
    have := (h.2 x.toNat (by omega) hz.2.1).2.2.2
    rw [hz.2.2] at this
    exact this
  · rw [if_neg hz]
    exact hb
theorem s_sign (d e : Nat) {μ : jM} (h : SI μ) (v : Int) (hv : -2147483648 ≤ v ∧ v ≤ 2147483647) : QI (fun m => CL (d + 2) 145 [jR 0, jI v] m) (fun m => CL (e + 1) 212 [jR 69, jI v] m) μ := by
  obtain ⟨k, w, b, M, r, K, c, t, ru, hc, hr, ho⟩ := h
  obtain ⟨x1, x2, x3, x4, x5, x6, x7, x8⟩ := hc
  obtain ⟨μ1, e1, f, n1⟩ := c_X11_sign d x7 v hv
  have hr1 := rS_hi hr (fun q hq => f q (by omega) (by omega))
  obtain ⟨y1, y2, y3, y4, y5, y6, y7, y8, y9⟩ := hr1
  obtain ⟨μ2, e2, ⟨g, j⟩, p1⟩ := c_X12_sign e y8 v hv
  exact ⟨_, μ1, μ2, e1, e2, k, w, b, M, r, K, c, sgT t v, ru, cS_lo ⟨KI_cg x1 (fun q _ _ => f q (by omega) (by omega)), LI_cg x2 (f 16 (by omega) (by omega)) (f 17 (by omega) (by omega)), BI_cg x3 (f 20 (by omega) (by omega)) (f 21 (by omega) (by omega)), MC_cg x4 (fun q _ _ => f q (by omega) (by omega)), RI_cg x5 (f 50 (by omega) (by omega)) (f 51 (by omega) (by omega)), KC_cg x6 (f 28 (by omega) (by omega)) (fun q _ _ => f q (by omega) (by omega)), n1, TaC_cg x8 (by rw [f 12 (by omega) (by omega)]) (f 13 (by omega) (by omega))⟩ (fun q hq => g q (by omega) (by omega)), ⟨KR_cg y1 (fun q _ _ => g q (by omega) (by omega)) (j 1 (by omega) (by omega)) (j 6 (by omega) (by omega)), LR_cg y2 (g 70 (by omega) (by omega)) (j 9 (by omega) (by omega)) (j 10 (by omega) (by omega)) (j 11 (by omega) (by omega)), SR_cg y3 (g 77 (by omega) (by omega)) (j 13 (by omega) (by omega)), MR_cg y4 (g 79 (by omega) (by omega)) (g 78 (by omega) (by omega)), RR_cg y5 (g 81 (by omega) (by omega)) (j 19 (by omega) (by omega)), KD2_cg y6 (fun q _ _ => g q (by omega) (by omega)), (by rw [j 49 (by omega) (by omega)]; exact y7), p1, TaR_cg y9 (j 27 (by omega) (by omega)) (g 82 (by omega) (by omega))⟩, ho⟩
theorem s_end (d e : Nat) {μ : jM} (h : SI μ) (v : Int) : QI (fun m => CL (d + 2) 146 [jR 0, jI v] m) (fun m => CL (e + 2) 213 [jR 69, jI v] m) μ := by
  obtain ⟨k, w, b, M, r, K, c, t, ru, hc, hr, ho⟩ := h
  obtain ⟨x1, x2, x3, x4, x5, x6, x7, x8⟩ := hc
  obtain ⟨μ1, e1, f, n1⟩ := c_X11_end d x7 v
  have hr1 := rS_hi hr (fun q hq => f q (by omega))
  obtain ⟨y1, y2, y3, y4, y5, y6, y7, y8, y9⟩ := hr1
  obtain ⟨μ2, e2, ⟨g, j⟩, p1⟩ := c_X12_end e y8 v
  exact ⟨_, μ1, μ2, e1, e2, k, w, b, M, r, K, c, enT t v, ru, cS_lo ⟨KI_cg x1 (fun q _ _ => f q (by omega)), LI_cg x2 (f 16 (by omega)) (f 17 (by omega)), BI_cg x3 (f 20 (by omega)) (f 21 (by omega)), MC_cg x4 (fun q _ _ => f q (by omega)), RI_cg x5 (f 50 (by omega)) (f 51 (by omega)), KC_cg x6 (f 28 (by omega)) (fun q _ _ => f q (by omega)), n1, TaC_cg x8 (by rw [f 12 (by omega)]) (f 13 (by omega))⟩ (fun q hq => g q (by omega)), ⟨KR_cg y1 (fun q _ _ => g q (by omega)) (j 1 (by omega) (by omega)) (j 6 (by omega) (by omega)), LR_cg y2 (g 70 (by omega)) (j 9 (by omega) (by omega)) (j 10 (by omega) (by omega)) (j 11 (by omega) (by omega)), SR_cg y3 (g 77 (by omega)) (j 13 (by omega) (by omega)), MR_cg y4 (g 79 (by omega)) (g 78 (by omega)), RR_cg y5 (g 81 (by omega)) (j 19 (by omega) (by omega)), KD2_cg y6 (fun q _ _ => g q (by omega)), (by rw [j 49 (by omega) (by omega)]; exact y7), p1, TaR_cg y9 (j 27 (by omega) (by omega)) (g 82 (by omega))⟩, ho⟩
theorem s_kitchen (d e : Nat) {μ : jM} (h : SI μ) : QI (fun m => CL (d + 6) 147 [jR 0] m) (fun m => CL (e + 5) 221 [jR 69] m) μ := by
  obtain ⟨k, w, b, M, r, K, c, t, ru, hc, hr, ho⟩ := h
  obtain ⟨x1, x2, x3, x4, x5, x6, x7, x8⟩ := hc
  obtain ⟨μ1, e1, f, n1, n2⟩ := c_X11_kitchen d x1 x7
  have hr1 := rS_hi hr (fun q hq => f q (by omega) (by omega) (by omega))
  obtain ⟨y1, y2, y3, y4, y5, y6, y7, y8, y9⟩ := hr1
  obtain ⟨μ2, e2, ⟨g, j⟩, p1, p2, p3⟩ := c_X12_kitchen e y1 y8
  exact ⟨_, μ1, μ2, e1, e2, kiK k t, w, b, M, r, K, kiC k t c, [], ru, cS_lo ⟨n1, LI_cg x2 (f 16 (by omega) (by omega) (by omega)) (f 17 (by omega) (by omega) (by omega)), BI_cg x3 (f 20 (by omega) (by omega) (by omega)) (f 21 (by omega) (by omega) (by omega)), MC_cg x4 (fun q _ _ => f q (by omega) (by omega) (by omega)), RI_cg x5 (f 50 (by omega) (by omega) (by omega)) (f 51 (by omega) (by omega) (by omega)), KC_cg x6 (f 28 (by omega) (by omega) (by omega)) (fun q _ _ => f q (by omega) (by omega) (by omega)), n2, TaC_cg x8 (by rw [f 12 (by omega) (by omega) (by omega)]) (f 13 (by omega) (by omega) (by omega))⟩ (fun q hq => g q (by omega) (by omega)), ⟨p1, LR_cg y2 (g 70 (by omega) (by omega)) (j 9 (by omega) (by omega) (by omega) (by omega) (by omega)) (j 10 (by omega) (by omega) (by omega) (by omega) (by omega)) (j 11 (by omega) (by omega) (by omega) (by omega) (by omega)), SR_cg y3 (g 77 (by omega) (by omega)) (j 13 (by omega) (by omega) (by omega) (by omega) (by omega)), MR_cg y4 (g 79 (by omega) (by omega)) (g 78 (by omega) (by omega)), RR_cg y5 (g 81 (by omega) (by omega)) (j 19 (by omega) (by omega) (by omega) (by omega) (by omega)), KD2_cg y6 (fun q _ _ => g q (by omega) (by omega)), (kiC_49 ho.2.2.1 ho.1 y1.1.1 y7 p3), p2, TaR_cg y9 (j 27 (by omega) (by omega) (by omega) (by omega) (by omega)) (g 82 (by omega) (by omega))⟩, kiO k t ho⟩
theorem s_rule (d e : Nat) {μ : jM} (h : SI μ) : QI (fun m => CL (d + 42) 148 [jR 0] m) (fun m => CL (e + 250) 228 [jR 69] m) μ := by
  obtain ⟨k, w, b, M, r, K, c, t, ru, hc, hr, ho⟩ := h
  obtain ⟨x1, x2, x3, x4, x5, x6, x7, x8⟩ := hc
  obtain ⟨μ1, e1, f, n1, n2⟩ := c_X11_rule d x7 x8
  have hr1 := rS_hi hr (fun q hq => f q (by omega) (by omega) (by omega) (by omega))
  obtain ⟨y1, y2, y3, y4, y5, y6, y7, y8, y9⟩ := hr1
  obtain ⟨μ2, e2, ⟨g, j⟩, p1, p2⟩ := c_X12_rule e y8 y9
  exact ⟨_, μ1, μ2, e1, e2, k, w, b, M, r, K, c, [], ruT ru t, cS_lo ⟨KI_cg x1 (fun q _ _ => f q (by omega) (by omega) (by omega) (by omega)), LI_cg x2 (f 16 (by omega) (by omega) (by omega) (by omega)) (f 17 (by omega) (by omega) (by omega) (by omega)), BI_cg x3 (f 20 (by omega) (by omega) (by omega) (by omega)) (f 21 (by omega) (by omega) (by omega) (by omega)), MC_cg x4 (fun q _ _ => f q (by omega) (by omega) (by omega) (by omega)), RI_cg x5 (f 50 (by omega) (by omega) (by omega) (by omega)) (f 51 (by omega) (by omega) (by omega) (by omega)), KC_cg x6 (f 28 (by omega) (by omega) (by omega) (by omega)) (fun q _ _ => f q (by omega) (by omega) (by omega) (by omega)), n1, n2⟩ (fun q hq => g q (by omega) (by omega)), ⟨KR_cg y1 (fun q _ _ => g q (by omega) (by omega)) (j 1 (by omega) (by omega)) (j 6 (by omega) (by omega)), LR_cg y2 (g 70 (by omega) (by omega)) (j 9 (by omega) (by omega)) (j 10 (by omega) (by omega)) (j 11 (by omega) (by omega)), SR_cg y3 (g 77 (by omega) (by omega)) (j 13 (by omega) (by omega)), MR_cg y4 (g 79 (by omega) (by omega)) (g 78 (by omega) (by omega)), RR_cg y5 (g 81 (by omega) (by omega)) (j 19 (by omega) (by omega)), KD2_cg y6 (fun q _ _ => g q (by omega) (by omega)), (by rw [j 49 (by omega) (by omega)]; exact y7), p2, p1⟩, ho⟩
theorem s_law (d e : Nat) {μ : jM} (h : SI μ) (x v : Int) : QI (fun m => CL (d + 2) 152 [jR 0, jI x, jI v] m) (fun m => CL (e + 3) 236 [jR 69, jI x, jI v] m) μ := by
  obtain ⟨k, w, b, M, r, K, c, t, ru, hc, hr, ho⟩ := h
  obtain ⟨x1, x2, x3, x4, x5, x6, x7, x8⟩ := hc
  obtain ⟨μ1, e1, f, n1⟩ := c_X11_law d x2 x v
  have hr1 := rS_hi hr (fun q hq => f q (by omega))
  obtain ⟨y1, y2, y3, y4, y5, y6, y7, y8, y9⟩ := hr1
  obtain ⟨μ2, e2, ⟨g, j⟩, p1⟩ := c_X12_law e y2 x v
  exact ⟨_, μ1, μ2, e1, e2, k, laW w x v, b, M, r, K, c, t, ru, cS_lo ⟨KI_cg x1 (fun q _ _ => f q (by omega)), n1, BI_cg x3 (f 20 (by omega)) (f 21 (by omega)), MC_cg x4 (fun q _ _ => f q (by omega)), RI_cg x5 (f 50 (by omega)) (f 51 (by omega)), KC_cg x6 (f 28 (by omega)) (fun q _ _ => f q (by omega)), TC_cg x7 (f 1 (by omega)) (f 2 (by omega)), TaC_cg x8 (by rw [f 12 (by omega)]) (f 13 (by omega))⟩ (fun q hq => g q (by omega)), ⟨KR_cg y1 (fun q _ _ => g q (by omega)) (j 1 (by omega) (by omega) (by omega) (by omega)) (j 6 (by omega) (by omega) (by omega) (by omega)), p1, SR_cg y3 (g 77 (by omega)) (j 13 (by omega) (by omega) (by omega) (by omega)), MR_cg y4 (g 79 (by omega)) (g 78 (by omega)), RR_cg y5 (g 81 (by omega)) (j 19 (by omega) (by omega) (by omega) (by omega)), KD2_cg y6 (fun q _ _ => g q (by omega)), (by rw [j 49 (by omega) (by omega) (by omega) (by omega)]; exact y7), TR_cg y8 (j 17 (by omega) (by omega) (by omega) (by omega)) (g 80 (by omega)), TaR_cg y9 (j 27 (by omega) (by omega) (by omega) (by omega)) (g 82 (by omega))⟩, ho⟩
theorem s_store (d e : Nat) {μ : jM} (h : SI μ) (x v : Int) : QI (fun m => CL (d + 2) 153 [jR 0, jI x, jI v] m) (fun m => CL (e + 2) 237 [jR 69, jI x, jI v] m) μ := by
  obtain ⟨k, w, b, M, r, K, c, t, ru, hc, hr, ho⟩ := h
  obtain ⟨x1, x2, x3, x4, x5, x6, x7, x8⟩ := hc
  obtain ⟨μ1, e1, f, n1⟩ := c_X11_store d x2 x v
  have hr1 := rS_hi hr (fun q hq => f q (by omega))
  obtain ⟨y1, y2, y3, y4, y5, y6, y7, y8, y9⟩ := hr1
  obtain ⟨μ2, e2, ⟨g, j⟩, p1⟩ := c_X12_store e y2 x v
  exact ⟨_, μ1, μ2, e1, e2, k, stW w x v, b, M, r, K, c, t, ru, cS_lo ⟨KI_cg x1 (fun q _ _ => f q (by omega)), n1, BI_cg x3 (f 20 (by omega)) (f 21 (by omega)), MC_cg x4 (fun q _ _ => f q (by omega)), RI_cg x5 (f 50 (by omega)) (f 51 (by omega)), KC_cg x6 (f 28 (by omega)) (fun q _ _ => f q (by omega)), TC_cg x7 (f 1 (by omega)) (f 2 (by omega)), TaC_cg x8 (by rw [f 12 (by omega)]) (f 13 (by omega))⟩ (fun q hq => g q (by omega) (by omega)), ⟨KR_cg y1 (fun q _ _ => g q (by omega) (by omega)) (j 1 (by omega)) (j 6 (by omega)), p1, SR_cg y3 (g 77 (by omega) (by omega)) (j 13 (by omega)), MR_cg y4 (g 79 (by omega) (by omega)) (g 78 (by omega) (by omega)), RR_cg y5 (g 81 (by omega) (by omega)) (j 19 (by omega)), KD2_cg y6 (fun q _ _ => g q (by omega) (by omega)), (by rw [j 49 (by omega)]; exact y7), TR_cg y8 (j 17 (by omega)) (g 80 (by omega) (by omega)), TaR_cg y9 (j 27 (by omega)) (g 82 (by omega) (by omega))⟩, ho⟩
theorem s_sheet (d e : Nat) {μ : jM} (h : SI μ) (x n u v : Int) (hu : -2147483648 ≤ u ∧ u ≤ 2147483647) : QI (fun m => CL (d + 3) 154 [jR 0, jI x, jI n, jI u, jI v] m) (fun m => CL (e + 2) 238 [jR 69, jI x, jI n, jI u, jI v] m) μ := by
  obtain ⟨k, w, b, M, r, K, c, t, ru, hc, hr, ho⟩ := h
  obtain ⟨x1, x2, x3, x4, x5, x6, x7, x8⟩ := hc
  obtain ⟨μ1, e1, f, n1⟩ := c_X11_sheet d x1 x n u v
  have hr1 := rS_hi hr (fun q hq => f q (by omega))
  obtain ⟨y1, y2, y3, y4, y5, y6, y7, y8, y9⟩ := hr1
  obtain ⟨μ2, e2, ⟨g, j⟩, p1⟩ := c_X12_sheet e y1 x n u v hu
  exact ⟨_, μ1, μ2, e1, e2, shK k x n u v, w, b, M, r, K, c, t, ru, cS_lo ⟨n1, LI_cg x2 (f 16 (by omega)) (f 17 (by omega)), BI_cg x3 (f 20 (by omega)) (f 21 (by omega)), MC_cg x4 (fun q _ _ => f q (by omega)), RI_cg x5 (f 50 (by omega)) (f 51 (by omega)), KC_cg x6 (f 28 (by omega)) (fun q _ _ => f q (by omega)), TC_cg x7 (f 1 (by omega)) (f 2 (by omega)), TaC_cg x8 (by rw [f 12 (by omega)]) (f 13 (by omega))⟩ (fun q hq => g q (by omega) (by omega)), ⟨p1, LR_cg y2 (g 70 (by omega) (by omega)) (j 9 (by omega)) (j 10 (by omega)) (j 11 (by omega)), SR_cg y3 (g 77 (by omega) (by omega)) (j 13 (by omega)), MR_cg y4 (g 79 (by omega) (by omega)) (g 78 (by omega) (by omega)), RR_cg y5 (g 81 (by omega) (by omega)) (j 19 (by omega)), KD2_cg y6 (fun q _ _ => g q (by omega) (by omega)), (by rw [j 49 (by omega)]; exact y7), TR_cg y8 (j 17 (by omega)) (g 80 (by omega) (by omega)), TaR_cg y9 (j 27 (by omega)) (g 82 (by omega) (by omega))⟩, (shO k x n u v ho)⟩
theorem s_serve (d e : Nat) {μ : jM} (h : SI μ) (x : Int) : QI (fun m => CL (d + 5) 156 [jR 0, jI x] m) (fun m => CL (e + 4) 245 [jR 69, jI x] m) μ := by
  obtain ⟨k, w, b, M, r, K, c, t, ru, hc, hr, ho⟩ := h
  obtain ⟨x1, x2, x3, x4, x5, x6, x7, x8⟩ := hc
  obtain ⟨μ1, e1, f, n1⟩ := c_X11_serve d x1 x2 x3 ho.1 x
  have hr1 := rS_hi hr (fun q hq => f q (by omega) (by omega))
  obtain ⟨y1, y2, y3, y4, y5, y6, y7, y8, y9⟩ := hr1
  obtain ⟨μ2, e2, ⟨g, j⟩, p1⟩ := c_X12_serve e y1 y2 y3 ho.1 x
  exact ⟨_, μ1, μ2, e1, e2, k, w, srB k w b x, M, r, K, c, t, ru, cS_lo ⟨KI_cg x1 (fun q _ _ => f q (by omega) (by omega)), LI_cg x2 (f 16 (by omega) (by omega)) (f 17 (by omega) (by omega)), n1, MC_cg x4 (fun q _ _ => f q (by omega) (by omega)), RI_cg x5 (f 50 (by omega) (by omega)) (f 51 (by omega) (by omega)), KC_cg x6 (f 28 (by omega) (by omega)) (fun q _ _ => f q (by omega) (by omega)), TC_cg x7 (f 1 (by omega) (by omega)) (f 2 (by omega) (by omega)), TaC_cg x8 (by rw [f 12 (by omega) (by omega)]) (f 13 (by omega) (by omega))⟩ (fun q hq => g q (by omega) (by omega)), ⟨KR_cg y1 (fun q _ _ => g q (by omega) (by omega)) (j 1 (by omega) (by omega)) (j 6 (by omega) (by omega)), LR_cg y2 (g 70 (by omega) (by omega)) (j 9 (by omega) (by omega)) (j 10 (by omega) (by omega)) (j 11 (by omega) (by omega)), p1, MR_cg y4 (g 79 (by omega) (by omega)) (g 78 (by omega) (by omega)), RR_cg y5 (g 81 (by omega) (by omega)) (j 19 (by omega) (by omega)), KD2_cg y6 (fun q _ _ => g q (by omega) (by omega)), (by rw [j 49 (by omega) (by omega)]; exact y7), TR_cg y8 (j 17 (by omega) (by omega)) (g 80 (by omega) (by omega)), TaR_cg y9 (j 27 (by omega) (by omega)) (g 82 (by omega) (by omega))⟩, ⟨srB_ok ho.1 x, ho.2⟩⟩
theorem s_back (d e : Nat) {μ : jM} (h : SI μ) : QI (fun m => CL (d + 3) 157 [jR 0] m) (fun m => CL (e + 1) 246 [jR 69] m) μ := by
  obtain ⟨k, w, b, M, r, K, c, t, ru, hc, hr, ho⟩ := h
  obtain ⟨x1, x2, x3, x4, x5, x6, x7, x8⟩ := hc
  obtain ⟨μ1, e1, f, n1⟩ := c_X11_back d x3
  have hr1 := rS_hi hr (fun q hq => f q (by omega))
  obtain ⟨y1, y2, y3, y4, y5, y6, y7, y8, y9⟩ := hr1
  obtain ⟨μ2, e2, ⟨g, j⟩, p1⟩ := c_X12_back e y3
  exact ⟨_, μ1, μ2, e1, e2, k, w, b.dropLast, M, r, K, c, t, ru, cS_lo ⟨KI_cg x1 (fun q _ _ => f q (by omega)), LI_cg x2 (f 16 (by omega)) (f 17 (by omega)), n1, MC_cg x4 (fun q _ _ => f q (by omega)), RI_cg x5 (f 50 (by omega)) (f 51 (by omega)), KC_cg x6 (f 28 (by omega)) (fun q _ _ => f q (by omega)), TC_cg x7 (f 1 (by omega)) (f 2 (by omega)), TaC_cg x8 (by rw [f 12 (by omega)]) (f 13 (by omega))⟩ (fun q hq => g q (by omega) (by omega)), ⟨KR_cg y1 (fun q _ _ => g q (by omega) (by omega)) (j 1 (by omega) (by omega)) (j 6 (by omega) (by omega)), LR_cg y2 (g 70 (by omega) (by omega)) (j 9 (by omega) (by omega)) (j 10 (by omega) (by omega)) (j 11 (by omega) (by omega)), p1, MR_cg y4 (g 79 (by omega) (by omega)) (g 78 (by omega) (by omega)), RR_cg y5 (g 81 (by omega) (by omega)) (j 19 (by omega) (by omega)), KD2_cg y6 (fun q _ _ => g q (by omega) (by omega)), (by rw [j 49 (by omega) (by omega)]; exact y7), TR_cg y8 (j 17 (by omega) (by omega)) (g 80 (by omega) (by omega)), TaR_cg y9 (j 27 (by omega) (by omega)) (g 82 (by omega) (by omega))⟩, ⟨Bok_drop ho.1, ho.2⟩⟩
theorem s_over (d e : Nat) {μ : jM} (h : SI μ) : QI (fun m => CL (d + 3) 158 [jR 0] m) (fun m => CL (e + 2) 247 [jR 69] m) μ := by
  obtain ⟨k, w, b, M, r, K, c, t, ru, hc, hr, ho⟩ := h
  obtain ⟨x1, x2, x3, x4, x5, x6, x7, x8⟩ := hc
  obtain ⟨μ1, e1, f, n1, n2⟩ := c_X11_over d x1 x2 x3
  have hr1 := rS_hi hr (fun q hq => f q (by omega) (by omega))
  obtain ⟨y1, y2, y3, y4, y5, y6, y7, y8, y9⟩ := hr1
  obtain ⟨μ2, e2, ⟨g, j⟩, p1, p2⟩ := c_X12_over e y1 y2 y3 ho.1
  exact ⟨_, μ1, μ2, e1, e2, k, ovW k w (bset b), [], M, r, K, c, t, ru, cS_lo ⟨KI_cg x1 (fun q _ _ => f q (by omega) (by omega)), n1, n2, MC_cg x4 (fun q _ _ => f q (by omega) (by omega)), RI_cg x5 (f 50 (by omega) (by omega)) (f 51 (by omega) (by omega)), KC_cg x6 (f 28 (by omega) (by omega)) (fun q _ _ => f q (by omega) (by omega)), TC_cg x7 (f 1 (by omega) (by omega)) (f 2 (by omega) (by omega)), TaC_cg x8 (by rw [f 12 (by omega) (by omega)]) (f 13 (by omega) (by omega))⟩ (fun q hq => g q (by omega) (by omega)), ⟨KR_cg y1 (fun q _ _ => g q (by omega) (by omega)) (j 1 (by omega) (by omega)) (j 6 (by omega) (by omega)), p1, p2, MR_cg y4 (g 79 (by omega) (by omega)) (g 78 (by omega) (by omega)), RR_cg y5 (g 81 (by omega) (by omega)) (j 19 (by omega) (by omega)), KD2_cg y6 (fun q _ _ => g q (by omega) (by omega)), (by rw [j 49 (by omega) (by omega)]; exact y7), TR_cg y8 (j 17 (by omega) (by omega)) (g 80 (by omega) (by omega)), TaR_cg y9 (j 27 (by omega) (by omega)) (g 82 (by omega) (by omega))⟩, ⟨⟨List.nodup_nil, fun _ z => (by cases z)⟩, ho.2⟩⟩
theorem s_menu (d e : Nat) {μ : jM} (h : SI μ) (x : Int) : QI (fun m => CL (d + 3) 160 [jR 0, jI x] m) (fun m => CL (e + 3) 249 [jR 69, jI x] m) μ := by
  obtain ⟨k, w, b, M, r, K, c, t, ru, hc, hr, ho⟩ := h
  obtain ⟨x1, x2, x3, x4, x5, x6, x7, x8⟩ := hc
  obtain ⟨μ1, e1, f, n1, n2⟩ := c_X11_menu d x1 x4 x7 x
  have hr1 := rS_hi hr (fun q hq => f q (by omega) (by omega))
  obtain ⟨y1, y2, y3, y4, y5, y6, y7, y8, y9⟩ := hr1
  obtain ⟨μ2, e2, ⟨g, j⟩, p1, p2⟩ := c_X12_menu e y1 y4 y8 x
  exact ⟨_, μ1, μ2, e1, e2, k, w, b, mnM k t M x, r, K, c, [], ru, cS_lo ⟨KI_cg x1 (fun q _ _ => f q (by omega) (by omega)), LI_cg x2 (f 16 (by omega) (by omega)) (f 17 (by omega) (by omega)), BI_cg x3 (f 20 (by omega) (by omega)) (f 21 (by omega) (by omega)), n1, RI_cg x5 (f 50 (by omega) (by omega)) (f 51 (by omega) (by omega)), KC_cg x6 (f 28 (by omega) (by omega)) (fun q _ _ => f q (by omega) (by omega)), n2, TaC_cg x8 (by rw [f 12 (by omega) (by omega)]) (f 13 (by omega) (by omega))⟩ (fun q hq => g q (by omega) (by omega) (by omega)), ⟨KR_cg y1 (fun q _ _ => g q (by omega) (by omega) (by omega)) (j 1 (by omega) (by omega)) (j 6 (by omega) (by omega)), LR_cg y2 (g 70 (by omega) (by omega) (by omega)) (j 9 (by omega) (by omega)) (j 10 (by omega) (by omega)) (j 11 (by omega) (by omega)), SR_cg y3 (g 77 (by omega) (by omega) (by omega)) (j 13 (by omega) (by omega)), p1, RR_cg y5 (g 81 (by omega) (by omega) (by omega)) (j 19 (by omega) (by omega)), KD2_cg y6 (fun q _ _ => g q (by omega) (by omega) (by omega)), (by rw [j 49 (by omega) (by omega)]; exact y7), p2, TaR_cg y9 (j 27 (by omega) (by omega)) (g 82 (by omega) (by omega) (by omega))⟩, ⟨ho.1, mnO y1.1.1 ho.2.1 t x, ho.2.2⟩⟩
theorem s_swap (d e : Nat) {μ : jM} (h : SI μ) (x y z : Int) : QI (fun m => CL (d + 3) 162 [jR 0, jI x, jI y, jI z] m) (fun m => CL (e + 3) 255 [jR 69, jI x, jI y, jI z] m) μ := by
  obtain ⟨k, w, b, M, r, K, c, t, ru, hc, hr, ho⟩ := h
  obtain ⟨x1, x2, x3, x4, x5, x6, x7, x8⟩ := hc
  obtain ⟨μ1, e1, f, n1⟩ := c_X11_swap d x4 x y z
  have hr1 := rS_hi hr (fun q hq => f q (by omega))
  obtain ⟨y1, y2, y3, y4, y5, y6, y7, y8, y9⟩ := hr1
  obtain ⟨μ2, e2, ⟨g, j⟩, p1⟩ := c_X12_swap e y4 x y z
  exact ⟨_, μ1, μ2, e1, e2, k, w, b, _, r, K, c, t, ru, cS_lo ⟨KI_cg x1 (fun q _ _ => f q (by omega)), LI_cg x2 (f 16 (by omega)) (f 17 (by omega)), BI_cg x3 (f 20 (by omega)) (f 21 (by omega)), n1, RI_cg x5 (f 50 (by omega)) (f 51 (by omega)), KC_cg x6 (f 28 (by omega)) (fun q _ _ => f q (by omega)), TC_cg x7 (f 1 (by omega)) (f 2 (by omega)), TaC_cg x8 (by rw [f 12 (by omega)]) (f 13 (by omega))⟩ (fun q hq => g q (by omega) (by omega) (by omega)), ⟨KR_cg y1 (fun q _ _ => g q (by omega) (by omega) (by omega)) (j 1 (by omega)) (j 6 (by omega)), LR_cg y2 (g 70 (by omega) (by omega) (by omega)) (j 9 (by omega)) (j 10 (by omega)) (j 11 (by omega)), SR_cg y3 (g 77 (by omega) (by omega) (by omega)) (j 13 (by omega)), p1, RR_cg y5 (g 81 (by omega) (by omega) (by omega)) (j 19 (by omega)), KD2_cg y6 (fun q _ _ => g q (by omega) (by omega) (by omega)), (by rw [j 49 (by omega)]; exact y7), TR_cg y8 (j 17 (by omega)) (g 80 (by omega) (by omega) (by omega)), TaR_cg y9 (j 27 (by omega)) (g 82 (by omega) (by omega) (by omega))⟩, ⟨ho.1, swO ho.2.1 _ _ _ _, ho.2.2⟩⟩
theorem s_turn (d e : Nat) {μ : jM} (h : SI μ) (x : Int) : QI (fun m => CL (d + 4) 163 [jR 0, jI x] m) (fun m => CL (e + 3) 256 [jR 69, jI x] m) μ := by
  obtain ⟨k, w, b, M, r, K, c, t, ru, hc, hr, ho⟩ := h
  obtain ⟨x1, x2, x3, x4, x5, x6, x7, x8⟩ := hc
  obtain ⟨μ1, e1, f, n1⟩ := c_X11_turn d x4 x
  have hr1 := rS_hi hr (fun q hq => f q (by omega))
  obtain ⟨y1, y2, y3, y4, y5, y6, y7, y8, y9⟩ := hr1
  obtain ⟨μ2, e2, ⟨g, j⟩, p1⟩ := c_X12_turn e y4 x
  exact ⟨_, μ1, μ2, e1, e2, k, w, b, _, r, K, c, t, ru, cS_lo ⟨KI_cg x1 (fun q _ _ => f q (by omega)), LI_cg x2 (f 16 (by omega)) (f 17 (by omega)), BI_cg x3 (f 20 (by omega)) (f 21 (by omega)), n1, RI_cg x5 (f 50 (by omega)) (f 51 (by omega)), KC_cg x6 (f 28 (by omega)) (fun q _ _ => f q (by omega)), TC_cg x7 (f 1 (by omega)) (f 2 (by omega)), TaC_cg x8 (by rw [f 12 (by omega)]) (f 13 (by omega))⟩ (fun q hq => g q (by omega) (by omega) (by omega)), ⟨KR_cg y1 (fun q _ _ => g q (by omega) (by omega) (by omega)) (j 1 (by omega)) (j 6 (by omega)), LR_cg y2 (g 70 (by omega) (by omega) (by omega)) (j 9 (by omega)) (j 10 (by omega)) (j 11 (by omega)), SR_cg y3 (g 77 (by omega) (by omega) (by omega)) (j 13 (by omega)), p1, RR_cg y5 (g 81 (by omega) (by omega) (by omega)) (j 19 (by omega)), KD2_cg y6 (fun q _ _ => g q (by omega) (by omega) (by omega)), (by rw [j 49 (by omega)]; exact y7), TR_cg y8 (j 17 (by omega)) (g 80 (by omega) (by omega) (by omega)), TaR_cg y9 (j 27 (by omega)) (g 82 (by omega) (by omega) (by omega))⟩, ⟨ho.1, tuO ho.2.1 _ _, ho.2.2⟩⟩
theorem s_keep (d e : Nat) {μ : jM} (h : SI μ) (x : Int) : QI (fun m => CL (d + 2) 200 [jR 0, jI x] m) (fun m => CL (e + 2) 311 [jR 69, jI x] m) μ := by
  obtain ⟨k, w, b, M, r, K, c, t, ru, hc, hr, ho⟩ := h
  obtain ⟨x1, x2, x3, x4, x5, x6, x7, x8⟩ := hc
  obtain ⟨μ1, e1, f, n1⟩ := c_X11_keep d c x1 x2 x3 x6 x
  have hr1 := rS_hi hr (fun q hq => f q (by omega) (by omega))
  obtain ⟨y1, y2, y3, y4, y5, y6, y7, y8, y9⟩ := hr1
  obtain ⟨μ2, e2, ⟨g, j⟩, p1⟩ := c_X12_keep e (kn k) y2 y3 y7 y6 x
  exact ⟨_, μ1, μ2, e1, e2, k, w, b, M, r, kpA K x w b (kn k) c, c, t, ru, cS_lo ⟨KI_cg x1 (fun q _ _ => f q (by omega) (by omega)), LI_cg x2 (f 16 (by omega) (by omega)) (f 17 (by omega) (by omega)), BI_cg x3 (f 20 (by omega) (by omega)) (f 21 (by omega) (by omega)), MC_cg x4 (fun q _ _ => f q (by omega) (by omega)), RI_cg x5 (f 50 (by omega) (by omega)) (f 51 (by omega) (by omega)), n1, TC_cg x7 (f 1 (by omega) (by omega)) (f 2 (by omega) (by omega)), TaC_cg x8 (by rw [f 12 (by omega) (by omega)]) (f 13 (by omega) (by omega))⟩ (fun q hq => g q (by omega) (by omega) (by omega) (by omega)), ⟨KR_cg y1 (fun q _ _ => g q (by omega) (by omega) (by omega) (by omega)) (j 1 (by omega)) (j 6 (by omega)), LR_cg y2 (g 70 (by omega) (by omega) (by omega) (by omega)) (j 9 (by omega)) (j 10 (by omega)) (j 11 (by omega)), SR_cg y3 (g 77 (by omega) (by omega) (by omega) (by omega)) (j 13 (by omega)), MR_cg y4 (g 79 (by omega) (by omega) (by omega) (by omega)) (g 78 (by omega) (by omega) (by omega) (by omega)), RR_cg y5 (g 81 (by omega) (by omega) (by omega) (by omega)) (j 19 (by omega)), p1, (by rw [j 49 (by omega)]; exact y7), TR_cg y8 (j 17 (by omega)) (g 80 (by omega) (by omega) (by omega) (by omega)), TaR_cg y9 (j 27 (by omega)) (g 82 (by omega) (by omega) (by omega) (by omega))⟩, ⟨ho.1, ho.2.1, Kok2_keep ho.2.2 x w ho.1⟩⟩
theorem s_again (d e : Nat) {μ : jM} (h : SI μ) (x : Int) : QI (fun m => CL (d + 2) 201 [jR 0, jI x] m) (fun m => CL (e + 2) 312 [jR 69, jI x] m) μ := by
  obtain ⟨k, w, b, M, r, K, c, t, ru, hc, hr, ho⟩ := h
  obtain ⟨x1, x2, x3, x4, x5, x6, x7, x8⟩ := hc
  obtain ⟨μ1, e1, f, n1, n2⟩ := c_X11_again d x1 x2 x3 x6 x
  have hr1 := rS_hi hr (fun q hq => f q (by omega))
  obtain ⟨y1, y2, y3, y4, y5, y6, y7, y8, y9⟩ := hr1
  obtain ⟨μ2, e2, ⟨g, j⟩, p1, p2⟩ := c_X12_again e y2 y3 y7 y6 ho.2.2 x
  exact ⟨_, μ1, μ2, e1, e2, k, _, _, M, r, K, c, t, ru, cS_lo ⟨KI_cg x1 (fun q _ _ => f q (by omega)), n1, n2, MC_cg x4 (fun q _ _ => f q (by omega)), RI_cg x5 (f 50 (by omega)) (f 51 (by omega)), KC_cg x6 (f 28 (by omega)) (fun q _ _ => f q (by omega)), TC_cg x7 (f 1 (by omega)) (f 2 (by omega)), TaC_cg x8 (by rw [f 12 (by omega)]) (f 13 (by omega))⟩ (fun q hq => g q (by omega) (by omega) (by omega)), ⟨KR_cg y1 (fun q _ _ => g q (by omega) (by omega) (by omega)) (j 1 (by omega) (by omega) (by omega) (by omega) (by omega)) (j 6 (by omega) (by omega) (by omega) (by omega) (by omega)), p1, p2, MR_cg y4 (g 79 (by omega) (by omega) (by omega)) (g 78 (by omega) (by omega) (by omega)), RR_cg y5 (g 81 (by omega) (by omega) (by omega)) (j 19 (by omega) (by omega) (by omega) (by omega) (by omega)), KD2_cg y6 (fun q _ _ => g q (by omega) (by omega) (by omega)), (by rw [j 49 (by omega) (by omega) (by omega) (by omega) (by omega)]; exact y7), TR_cg y8 (j 17 (by omega) (by omega) (by omega) (by omega) (by omega)) (g 80 (by omega) (by omega) (by omega)), TaR_cg y9 (j 27 (by omega) (by omega) (by omega) (by omega) (by omega)) (g 82 (by omega) (by omega) (by omega))⟩, ⟨agO ho.1 ho.2.2 x, ho.2⟩⟩
/-! ## calls that may throw -/
theorem qt_n {cx cr : jM → Option jO} {μ : jM} (h : SI μ) (e1 : cx μ = rT μ) (e2 : cr μ = rI 0 (jup μ 69 20 1)) : QT cx cr μ := by
  obtain ⟨k, w, b, M, r, K, c, t, ru, hc, hr, ho⟩ := h
  have f : fR (jup μ 69 20 1) μ := ⟨fun q hq => jup_ne (by omega), fun j hj => jup_m (by omega)⟩
  exact Or.inr ⟨0, _, e1, e2, jup_r _ _ _ _, si_C hc hr ho (fC_r μ) hc.2.2.2.2.1 f (RR_cg hr.2.2.2.2.1 (jup_ne (by decide)) (jup_m (by decide)))⟩
theorem s_guest (d e : Nat) {μ : jM} (h : SI μ) (x y : Int) : QT (fun m => CL (d + 3) 150 [jR 0, jI x, jI y] m) (fun m => CL (e + 3) 233 [jR 69, jI x, jI y] m) μ := by
  have h0 := h
  obtain ⟨k, w, b, M, r, K, c, t, ru, hc, hr, ho⟩ := h
  obtain ⟨a1, a2⟩ := c_X11_guest d hc.1 x y
  obtain ⟨b1, b2⟩ := c_X12_guest e hr.1 x y
  by_cases hz : guB k x y
  · exact Or.inl ⟨_, μ, _, a1 hz, b1 hz, jup_r _ _ _ _, si_C hc hr ho (fC_r μ) hc.2.2.2.2.1 (fR_0 μ) (th0_RR hr.2.2.2.2.1)⟩
  · exact qt_n h0 (a2 hz) (b2 hz)
theorem s_dish (d e : Nat) {μ : jM} (h : SI μ) (x y : Int) : QT (fun m => CL (d + 6) 149 [jR 0, jI x, jI y] m) (fun m => CL (e + 252) 232 [jR 69, jI x, jI y] m) μ := by
  have h0 := h
  obtain ⟨k, w, b, M, r, K, c, t, ru, hc, hr, ho⟩ := h
  have a := c_X11_dish d hc.1 hc.2.2.2.2.2.2.2 x y
  by_cases hz : diB k x y
  · obtain ⟨μ1, e1, f1⟩ := a.1 hz
    have c1 := fT_C f1
    have r1 := RI_cg hc.2.2.2.2.1 (f1.1 50 (by decide) (by decide)) (f1.1 51 (by decide) (by decide))
    have hr1 := rS_hi hr (fun q hq => c1.1 q (by omega))
    obtain ⟨μ2, e2, f2⟩ := (c_X12_dish e hr1.1 hr1.2.2.2.2.2.2.2.2 x y).1 hz
    have r2 : RR μ2 r := RR_cg (th0_RR hr1.2.2.2.2.1) (f2.1 81 (by decide)) (f2.2 19 (by omega))
    exact Or.inl ⟨_, μ1, μ2, e1, e2, (f2.2 20 (by omega)).trans (jup_r _ _ _ _), si_C hc hr ho c1 r1 (fR_t (fR_0 μ1) (fR_J f2)) r2⟩
  · exact qt_n h0 (a.2 hz) ((c_X12_dish e hr.1 hr.2.2.2.2.2.2.2.2 x y).2 hz)
theorem s_joy (d e : Nat) {μ : jM} (h : SI μ) (x y : Int) : QT (fun m => CL (d + 5) 151 [jR 0, jI x, jI y] m) (fun m => CL (e + 251) 234 [jR 69, jI x, jI y] m) μ := by
  have h0 := h
  obtain ⟨k, w, b, M, r, K, c, t, ru, hc, hr, ho⟩ := h
  have a := c_X11_joy d hc.1 hc.2.2.2.2.2.2.2 x y
  by_cases hz : joB k x y
  · obtain ⟨μ1, e1, f1⟩ := a.1 hz
    have c1 := fT_C f1
    have r1 := RI_cg hc.2.2.2.2.1 (f1.1 50 (by decide) (by decide)) (f1.1 51 (by decide) (by decide))
    have hr1 := rS_hi hr (fun q hq => c1.1 q (by omega))
    obtain ⟨μ2, e2, f2⟩ := (c_X12_joy e hr1.1 hr1.2.2.2.2.2.2.2.2 x y).1 hz
    have r2 : RR μ2 r := RR_cg (th0_RR hr1.2.2.2.2.1) (f2.1 81 (by decide)) (f2.2 19 (by omega))
    exact Or.inl ⟨_, μ1, μ2, e1, e2, (f2.2 20 (by omega)).trans (jup_r _ _ _ _), si_C hc hr ho c1 r1 (fR_t (fR_0 μ1) (fR_J f2)) r2⟩
  · exact qt_n h0 (a.2 hz) ((c_X12_joy e hr.1 hr.2.2.2.2.2.2.2.2 x y).2 hz)
theorem s_row (d e : Nat) {μ : jM} (h : SI μ) (x : Int) : QT (fun m => CL (d + 2) 203 [jR 0, jI x] m) (fun m => CL (e + 2) 314 [jR 69, jI x] m) μ := by
  have h0 := h
  obtain ⟨k, w, b, M, r, K, c, t, ru, hc, hr, ho⟩ := h
  have a := c_X11_row d hc.2.2.2.2.1 x
  have b' := c_X12_row e hr.2.2.2.2.1 x
  by_cases hz : 0 ≤ x ∧ x < r.length
  · rw [if_pos hz] at a b'
    exact Or.inl ⟨_, μ, _, a, b', jup_r _ _ _ _, si_C hc hr ho (fC_r μ) hc.2.2.2.2.1 (fR_0 μ) (th0_RR hr.2.2.2.2.1)⟩
  · rw [if_neg hz] at a b'
    exact qt_n h0 a b'
