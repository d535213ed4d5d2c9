/-! the calls that may throw, with out[0] written between the two -/
theorem rS_hi9 {μ μ' : jM} {k : Kt} {w : Lw} {b : List Nat} {M : Mn} {r : List Int} {K : Kp} {c : Nat} {t ru : List Nat} (h : rS μ k w b M r K c t ru) (e : ∀ q, 69 ≤ q → q < 99 → μ' q = μ q) : rS μ' k w b M r K c t ru := by
  obtain ⟨h1, h2, h3, h4, h5, h6, h7, h8, h9⟩ := h
  have e69 := e 69 (by decide) (by decide)
  exact ⟨KR_cg h1 (fun q _ _ => e q (by omega) (by omega)) (by rw [e69]) (by rw [e69]), LR_cg h2 (e _ (by decide) (by decide)) (by rw [e69]) (by rw [e69]) (by rw [e69]), SR_cg h3 (e _ (by decide) (by decide)) (by rw [e69]), MR_cg h4 (e _ (by decide) (by decide)) (e _ (by decide) (by decide)), RR_cg h5 (e _ (by decide) (by decide)) (by rw [e69]), KD2_cg h6 (fun q _ _ => e q (by omega) (by omega)), by rw [e69]; exact h7, TR_cg h8 (by rw [e69]) (e _ (by decide) (by decide)), TaR_cg h9 (by rw [e69]) (e _ (by decide) (by decide))⟩
theorem jup99 (μ : jM) (v : Int) (q : Nat) (h : q < 99) : jup μ 99 0 v q = μ q := jup_ne (by omega)
theorem si_C9 {μ μ1 μ2 : jM} {v : Int} {k : Kt} {w : Lw} {b : List Nat} {M : Mn} {r : List Int} {K : Kp} {c : Nat} {t ru : List Nat} {r' : List Int} (hc : cS μ k w b M r K t ru) (hr : rS μ k w b M r K c t ru) (ho : oS k b M K c) (f1 : fC μ1 μ) (r1 : RI μ1 r') (f2 : fR μ2 (jup μ1 99 0 v)) (r2 : RR μ2 r') : SI μ2 := ⟨k, w, b, M, r', K, c, t, ru, cS_lo (cS_C hc f1 r1) (fun q hq => (f2.1 q (by omega)).trans (jup99 μ1 v q (by omega))), rS_R (rS_hi9 (rS_hi hr (fun q hq => f1.1 q (by omega))) (fun q _ hq => jup99 μ1 v q hq)) f2 r2, ho⟩
def QT2 (cx cr : jM → Option jO) (μ : jM) : Prop := (∃ (a : Int) (μ1 μ2 : jM), cx μ = rI a μ1 ∧ cr (jup μ1 99 0 a) = rI a μ2 ∧ μ2 69 20 = 0 ∧ μ2 99 0 = a ∧ SI μ2) ∨ ∃ (a : Int) (μ2 : jM), cx μ = rT μ ∧ cr μ = rI a μ2 ∧ μ2 69 20 = 1 ∧ SI μ2
theorem qt2_n {cx cr : jM → Option jO} {μ : jM} (h : SI μ) (e1 : cx μ = rT μ) (e2 : cr μ = rI 0 (jup μ 69 20 1)) : QT2 cx cr μ := by
  obtain ⟨k, w, b, M, r, K, c, t, ru, hc, hr, ho⟩ := h
  have f : fR (jup μ 69 20 1) μ := ⟨fun q hq => jup_ne (by omega), fun j hj => jup_m (by omega)⟩
  exact Or.inr ⟨0, _, e1, e2, jup_r _ _ _ _, si_C hc hr ho (fC_r μ) hc.2.2.2.2.1 f (RR_cg hr.2.2.2.2.1 (jup_ne (by decide)) (jup_m (by decide)))⟩
theorem o99 (μ : jM) (v : Int) : jup (jup μ 99 0 v) 69 20 0 99 0 = v := (congrFun (jup_ne (by decide)) 0).trans (jup_r _ _ _ _)
theorem t_guest (d e : Nat) {μ : jM} (h : SI μ) (x y : Int) : QT2 (fun m => CL (d + 3) 150 [jR 0, jI x, jI y] m) (fun m => CL (e + 3) 233 [jR 69, jI x, jI y] m) μ := by
  have h0 := h
  obtain ⟨k, w, b, M, r, K, c, t, ru, hc, hr, ho⟩ := h
  obtain ⟨a1, a2⟩ := c_X11_guest d hc.1 x y
  by_cases hz : guB k x y
  · have hr1 := rS_hi9 hr (fun q _ hq => jup99 μ (guA k x y : Nat) q hq)
    obtain ⟨b1, -⟩ := c_X12_guest e hr1.1 x y
    exact Or.inl ⟨_, μ, _, a1 hz, b1 hz, jup_r _ _ _ _, o99 _ _, si_C9 hc hr ho (fC_r μ) hc.2.2.2.2.1 (fR_0 _) (th0_RR hr1.2.2.2.2.1)⟩
  · exact qt2_n h0 (a2 hz) ((c_X12_guest e hr.1 x y).2 hz)
theorem t_dish (d e : Nat) {μ : jM} (h : SI μ) (x y : Int) : QT2 (fun m => CL (d + 6) 149 [jR 0, jI x, jI y] m) (fun m => CL (e + 252) 232 [jR 69, jI x, jI y] m) μ := by
  have h0 := h
  obtain ⟨k, w, b, M, r, K, c, t, ru, hc, hr, ho⟩ := h
  have a := c_X11_dish d hc.1 hc.2.2.2.2.2.2.2 x y
  by_cases hz : diB k x y
  · obtain ⟨μ1, e1, f1⟩ := a.1 hz
    have c1 := fT_C f1
    have r1 := RI_cg hc.2.2.2.2.1 (f1.1 50 (by decide) (by decide)) (f1.1 51 (by decide) (by decide))
    have hr1 := rS_hi9 (rS_hi hr (fun q hq => c1.1 q (by omega))) (fun q _ hq => jup99 μ1 (diA k ru x y) q hq)
    obtain ⟨μ2, e2, f2⟩ := (c_X12_dish e hr1.1 hr1.2.2.2.2.2.2.2.2 x y).1 hz
    have r2 : RR μ2 r := RR_cg (th0_RR hr1.2.2.2.2.1) (f2.1 81 (by decide)) (f2.2 19 (by omega))
    exact Or.inl ⟨_, μ1, μ2, e1, e2, (f2.2 20 (by omega)).trans (jup_r _ _ _ _), (congrFun (f2.1 99 (by decide)) 0).trans (o99 _ _), si_C9 hc hr ho c1 r1 (fR_t (fR_0 _) (fR_J f2)) r2⟩
  · exact qt2_n h0 (a.2 hz) ((c_X12_dish e hr.1 hr.2.2.2.2.2.2.2.2 x y).2 hz)
theorem t_joy (d e : Nat) {μ : jM} (h : SI μ) (x y : Int) : QT2 (fun m => CL (d + 5) 151 [jR 0, jI x, jI y] m) (fun m => CL (e + 251) 234 [jR 69, jI x, jI y] m) μ := by
  have h0 := h
  obtain ⟨k, w, b, M, r, K, c, t, ru, hc, hr, ho⟩ := h
  have a := c_X11_joy d hc.1 hc.2.2.2.2.2.2.2 x y
  by_cases hz : joB k x y
  · obtain ⟨μ1, e1, f1⟩ := a.1 hz
    have c1 := fT_C f1
    have r1 := RI_cg hc.2.2.2.2.1 (f1.1 50 (by decide) (by decide)) (f1.1 51 (by decide) (by decide))
    have hr1 := rS_hi9 (rS_hi hr (fun q hq => c1.1 q (by omega))) (fun q _ hq => jup99 μ1 (joyv k ru x.toNat y.toNat) q hq)
    obtain ⟨μ2, e2, f2⟩ := (c_X12_joy e hr1.1 hr1.2.2.2.2.2.2.2.2 x y).1 hz
    have r2 : RR μ2 r := RR_cg (th0_RR hr1.2.2.2.2.1) (f2.1 81 (by decide)) (f2.2 19 (by omega))
    exact Or.inl ⟨_, μ1, μ2, e1, e2, (f2.2 20 (by omega)).trans (jup_r _ _ _ _), (congrFun (f2.1 99 (by decide)) 0).trans (o99 _ _), si_C9 hc hr ho c1 r1 (fR_t (fR_0 _) (fR_J f2)) r2⟩
  · exact qt2_n h0 (a.2 hz) ((c_X12_joy e hr.1 hr.2.2.2.2.2.2.2.2 x y).2 hz)
theorem t_row (d e : Nat) {μ : jM} (h : SI μ) (x : Int) : QT2 (fun m => CL (d + 2) 203 [jR 0, jI x] m) (fun m => CL (e + 2) 314 [jR 69, jI x] m) μ := by
  have h0 := h
  obtain ⟨k, w, b, M, r, K, c, t, ru, hc, hr, ho⟩ := h
  have a := c_X11_row d hc.2.2.2.2.1 x
  by_cases hz : 0 ≤ x ∧ x < r.length
  · have hr1 := rS_hi9 hr (fun q _ hq => jup99 μ (r.getD x.toNat 0) q hq)
    have b' := c_X12_row e hr1.2.2.2.2.1 x
    rw [if_pos hz] at a b'
    exact Or.inl ⟨_, μ, _, a, b', jup_r _ _ _ _, o99 _ _, si_C9 hc hr ho (fC_r μ) hc.2.2.2.2.1 (fR_0 _) (th0_RR hr1.2.2.2.2.1)⟩
  · have b' := c_X12_row e hr.2.2.2.2.1 x
    rw [if_neg hz] at a b'
    exact qt2_n h0 a b'
