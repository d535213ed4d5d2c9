/-! ## the state that both sides stand for -/
theorem KC_cg {μ μ' : jM} {K : Kp} (h : KC μ K) (e1 : μ' 28 = μ 28) (e : ∀ q, 61 ≤ q → q ≤ 68 → μ' q = μ q) : KC μ' K := fun i hi => by
  obtain ⟨a, b⟩ := h i hi
  refine ⟨fun z => by rw [e1]; exact a z, fun z => ?_⟩
  obtain ⟨b1, b2, b3⟩ := b z
  exact ⟨LI_cg b1 (e _ (by omega) (by omega)) (e _ (by omega) (by omega)), BI_cg b2 (e _ (by omega) (by omega)) (e _ (by omega) (by omega)), by rw [e1]; exact b3⟩
theorem KD2_cg {μ μ' : jM} {K : Kp} (h : KD2 μ K) (e : ∀ q, 96 ≤ q → q ≤ 98 → μ' q = μ q) : KD2 μ' K := fun i hi => by
  obtain ⟨a, b⟩ := h i hi
  refine ⟨fun z => by rw [e 97 (by decide) (by decide)]; exact a z, fun z => ?_⟩
  obtain ⟨b1, b2, b3⟩ := b z
  unfold KS at b3 ⊢
  rw [e 97 (by decide) (by decide), e 98 (by decide) (by decide), e 96 (by decide) (by decide)]
  exact ⟨b1, b2, b3⟩
theorem TR_cg {μ μ' : jM} {t : List Nat} (h : TR μ t) (e1 : μ' 69 17 = μ 69 17) (e2 : μ' 80 = μ 80) : TR μ' t := ⟨h.1, h.2.1, by rw [e1]; exact h.2.2.1, by rw [e2]; exact h.2.2.2⟩
theorem TaR_cg {μ μ' : jM} {r : List Nat} (h : TaR μ r) (e1 : μ' 69 27 = μ 69 27) (e2 : μ' 82 = μ 82) : TaR μ' r := ⟨h.1, by rw [e1]; exact h.2.1, by rw [e2]; exact h.2.2⟩
theorem TaC_cg {μ μ' : jM} {r : List Nat} (h : TaC μ r) (e1 : μ' 12 3 = μ 12 3) (e2 : μ' 13 = μ 13) : TaC μ' r := ⟨h.1, by rw [e1]; exact h.2.1, by rw [e2]; exact h.2.2⟩
def cS (μ : jM) (k : Kt) (w : Lw) (b : List Nat) (M : Mn) (r : List Int) (K : Kp) (t ru : List Nat) : Prop := KI μ k ∧ LI μ 16 w ∧ BI μ 20 b ∧ MC μ M ∧ RI μ r ∧ KC μ K ∧ TC μ t ∧ TaC μ ru
def rS (μ : jM) (k : Kt) (w : Lw) (b : List Nat) (M : Mn) (r : List Int) (K : Kp) (c : Nat) (t ru : List Nat) : Prop := KR μ k ∧ LR μ w ∧ SR μ b ∧ MR μ M ∧ RR μ r ∧ KD2 μ K ∧ μ 69 49 = (c : Int) ∧ TR μ t ∧ TaR μ ru
def oS (k : Kt) (b : List Nat) (M : Mn) (K : Kp) (c : Nat) : Prop := Bok (kn k) b ∧ Mkk k M ∧ Kok2 k c K
def SI (μ : jM) : Prop := ∃ (k : Kt) (w : Lw) (b : List Nat) (M : Mn) (r : List Int) (K : Kp) (c : Nat) (t ru : List Nat), cS μ k w b M r K t ru ∧ rS μ k w b M r K c t ru ∧ oS k b M K c
theorem cS_lo {μ μ' : jM} {k : Kt} {w : Lw} {b : List Nat} {M : Mn} {r : List Int} {K : Kp} {t ru : List Nat} (h : cS μ k w b M r K t ru) (e : ∀ q, q < 69 → μ' q = μ q) : cS μ' k w b M r K t ru := by
  obtain ⟨h1, h2, h3, h4, h5, h6, h7, h8⟩ := h
  exact ⟨KI_cg h1 (fun q _ _ => e q (by omega)), LI_cg h2 (e _ (by decide)) (e _ (by decide)), BI_cg h3 (e _ (by decide)) (e _ (by decide)), MC_cg h4 (fun q _ _ => e q (by omega)), RI_cg h5 (e _ (by decide)) (e _ (by decide)), KC_cg h6 (e _ (by decide)) (fun q _ _ => e q (by omega)), TC_cg h7 (e _ (by decide)) (e _ (by decide)), TaC_cg h8 (by rw [e 12 (by decide)]) (e _ (by decide))⟩
theorem rS_hi {μ μ' : jM} {k : Kt} {w : Lw} {b : List Nat} {M : Mn} {r : List Int} {K : Kp} {c : Nat} {t ru : List Nat} (h : rS μ k w b M r K c t ru) (e : ∀ q, 69 ≤ q → μ' q = μ q) : rS μ' k w b M r K c t ru := by
  obtain ⟨h1, h2, h3, h4, h5, h6, h7, h8, h9⟩ := h
  have e69 := e 69 (by decide)
  exact ⟨KR_cg h1 (fun q _ _ => e q (by omega)) (by rw [e69]) (by rw [e69]), LR_cg h2 (e _ (by decide)) (by rw [e69]) (by rw [e69]) (by rw [e69]), SR_cg h3 (e _ (by decide)) (by rw [e69]), MR_cg h4 (e _ (by decide)) (e _ (by decide)), RR_cg h5 (e _ (by decide)) (by rw [e69]), KD2_cg h6 (fun q _ _ => e q (by omega)), by rw [e69]; exact h7, TR_cg h8 (by rw [e69]) (e _ (by decide)), TaR_cg h9 (by rw [e69]) (e _ (by decide))⟩
theorem cS_C {μ μ' : jM} {k : Kt} {w : Lw} {b : List Nat} {M : Mn} {r : List Int} {K : Kp} {t ru : List Nat} {r' : List Int} (h : cS μ k w b M r K t ru) (f : fC μ' μ) (hr : RI μ' r') : cS μ' k w b M r' K t ru := by
  obtain ⟨h1, h2, h3, h4, h5, h6, h7, h8⟩ := h
  exact ⟨fC_KI f h1, fC_LI f h2, fC_BI f h3, fC_MC f h4, hr, KC_cg h6 (f.1 28 (by omega)) (fun q _ _ => f.1 q (by omega)), TC_cg h7 (f.1 1 (by omega)) (f.1 2 (by omega)), TaC_cg h8 f.2 (f.1 13 (by omega))⟩
theorem rS_R {μ μ' : jM} {k : Kt} {w : Lw} {b : List Nat} {M : Mn} {r : List Int} {K : Kp} {c : Nat} {t ru : List Nat} {r' : List Int} (h : rS μ k w b M r K c t ru) (f : fR μ' μ) (hr : RR μ' r') : rS μ' k w b M r' K c t ru := by
  obtain ⟨h1, h2, h3, h4, h5, h6, h7, h8, h9⟩ := h
  exact ⟨fR_KR f h1, fR_LR f h2, fR_SR f h3, fR_MR f h4, hr, KD2_cg h6 (fun q _ _ => f.1 q (by omega)), by rw [f.2 49 (by omega)]; exact h7, TR_cg h8 (f.2 17 (by omega)) (f.1 80 (by omega)), TaR_cg h9 (f.2 27 (by omega)) (f.1 82 (by omega))⟩
/-- both answer alike, and stand for one state behind it -/
def QI (cx cr : jM → Option jO) (μ : jM) : Prop := ∃ (a : Int) (μ1 μ2 : jM), cx μ = rI a μ1 ∧ cr μ1 = rI a μ2 ∧ SI μ2
def QL (cx cr : jM → Option jO) (μ : jM) : Prop := ∃ (a : Int) (μ1 μ2 : jM), cx μ = rL a μ1 ∧ cr μ1 = rL a μ2 ∧ SI μ2
def QT (cx cr : jM → Option jO) (μ : jM) : Prop := (∃ (a : Int) (μ1 μ2 : jM), cx μ = rI a μ1 ∧ cr μ1 = rI a μ2 ∧ μ2 69 20 = 0 ∧ SI μ2) ∨ ∃ (a : Int) (μ2 : jM), cx μ = rT μ ∧ cr μ = rI a μ2 ∧ μ2 69 20 = 1 ∧ SI μ2
/-- calls that only tell -/
theorem si_C {μ μ1 μ2 : jM} {k : Kt} {w : Lw} {b : List Nat} {M : Mn} {r : List Int} {K : Kp} {c : Nat} {t ru : List Nat} {r' : List Int} (hc : cS μ k w b M r K t ru) (hr : rS μ k w b M r K c t ru) (ho : oS k b M K c) (f1 : fC μ1 μ) (r1 : RI μ1 r') (f2 : fR μ2 μ1) (r2 : RR μ2 r') : SI μ2 := ⟨k, w, b, M, r', K, c, t, ru, cS_lo (cS_C hc f1 r1) (fun q hq => f2.1 q (by omega)), rS_R (rS_hi hr (fun q hq => f1.1 q (by omega))) f2 r2, ho⟩
theorem rI_inj {a c : Int} {μ ν : jM} (h : rI a μ = rI c ν) : a = c ∧ μ = ν := by
  unfold rI at h
  injection h with h
  injection h with h1 h2
  injection h1 with h1
  injection h1 with h1
  injection h1 with h1
  exact ⟨h1, h2⟩
theorem rL_inj {a c : Int} {μ ν : jM} (h : rL a μ = rL c ν) : a = c ∧ μ = ν := by
  unfold rL at h
  injection h with h
  injection h with h1 h2
  injection h1 with h1
  injection h1 with h1
  injection h1 with h1
  injection h1 with h1
  exact ⟨h1, h2⟩
theorem qi_q {cx cr : jM → Option jO} {μ : jM} {k : Kt} {w : Lw} {b : List Nat} {M : Mn} {r : List Int} {K : Kp} {c : Nat} {t ru : List Nat} (hc : cS μ k w b M r K t ru) (hr : rS μ k w b M r K c t ru) (ho : oS k b M K c) (hq : ∀ ν, rS ν k w b M r K c t ru → ∃ v μ' ν' r', cx μ = rI v μ' ∧ cr ν = rI v ν' ∧ fC μ' μ ∧ fR ν' ν ∧ RI μ' r' ∧ RR ν' r') : QI cx cr μ := by
  obtain ⟨v, μ1, ν0, r0, e1, -, f1, -, -, -⟩ := hq μ hr
  have hr1 := rS_hi hr (fun q hq => f1.1 q (by omega))
  obtain ⟨v2, μ2, ν2, r2, e2, g2, f2, h2, x2, y2⟩ := hq μ1 hr1
  obtain ⟨a1, a2⟩ := rI_inj (e1.symm.trans e2)
  subst a1
  subst a2
  exact ⟨v, μ1, ν2, e1, g2, si_C hc hr ho f1 x2 h2 y2⟩
theorem ql_q {cx cr : jM → Option jO} {μ : jM} {k : Kt} {w : Lw} {b : List Nat} {M : Mn} {r : List Int} {K : Kp} {c : Nat} {t ru : List Nat} (hc : cS μ k w b M r K t ru) (hr : rS μ k w b M r K c t ru) (ho : oS k b M K c) (hq : ∀ ν, rS ν k w b M r K c t ru → ∃ v μ' ν' r', cx μ = rL v μ' ∧ cr ν = rL v ν' ∧ fC μ' μ ∧ fR ν' ν ∧ RI μ' r' ∧ RR ν' r') : QL cx cr μ := by
  obtain ⟨v, μ1, ν0, r0, e1, -, f1, -, -, -⟩ := hq μ hr
  have hr1 := rS_hi hr (fun q hq => f1.1 q (by omega))
  obtain ⟨v2, μ2, ν2, r2, e2, g2, f2, h2, x2, y2⟩ := hq μ1 hr1
  obtain ⟨a1, a2⟩ := rL_inj (e1.symm.trans e2)
  subst a1
  subst a2
  exact ⟨v, μ1, ν2, e1, g2, si_C hc hr ho f1 x2 h2 y2⟩
theorem th0_fR {μ : jM} {r : List Int} (h : RR μ r) : RR (jup μ 69 20 0) r := th0_RR h
/-! ### calls by turns -/
theorem s_longest (d e : Nat) {μ : jM} (h : SI μ) : QI (fun m => CL (d + 7) 168 [jR 0] m) (fun m => CL (e + 7) 269 [jR 69] m) μ := by
  obtain ⟨k, w, b, M, r, K, c, t, ru, hc, hr, ho⟩ := h
  refine qi_q hc hr ho (fun ν hν => ?_)
  obtain ⟨x1, x2, x3, x4, x5, x6, x7, x8⟩ := hc
  obtain ⟨y1, y2, y3, y4, y5, y6, y7, y8, y9⟩ := hν
  exact q_longest d e x1 x2 x3 x5 y1 y2 y3 ho.1
theorem s_bears (d e : Nat) {μ : jM} (h : SI μ) (x : Int) : QI (fun m => CL (d + 7) 172 [jR 0, jI x] m) (fun m => CL (e + 7) 275 [jR 69, jI x] m) μ := by
  obtain ⟨k, w, b, M, r, K, c, t, ru, hc, hr, ho⟩ := h
  refine qi_q hc hr ho (fun ν hν => ?_)
  obtain ⟨x1, x2, x3, x4, x5, x6, x7, x8⟩ := hc
  obtain ⟨y1, y2, y3, y4, y5, y6, y7, y8, y9⟩ := hν
  exact q_bears d e x1 x2 x3 x5 y1 y2 y3 y5 ho.1 x
theorem s_between (d e : Nat) {μ : jM} (h : SI μ) (x y : Int) : QI (fun m => CL (d + 7) 170 [jR 0, jI x, jI y] m) (fun m => CL (e + 8) 273 [jR 69, jI x, jI y] m) μ := by
  obtain ⟨k, w, b, M, r, K, c, t, ru, hc, hr, ho⟩ := h
  refine qi_q hc hr ho (fun ν hν => ?_)
  obtain ⟨x1, x2, x3, x4, x5, x6, x7, x8⟩ := hc
  obtain ⟨y1, y2, y3, y4, y5, y6, y7, y8, y9⟩ := hν
  exact q_between d e x1 x2 x5 y1 y2 y5 x y
theorem s_shortest (d e : Nat) {μ : jM} (h : SI μ) (x y : Int) : QI (fun m => CL (d + 7) 171 [jR 0, jI x, jI y] m) (fun m => CL (e + 8) 274 [jR 69, jI x, jI y] m) μ := by
  obtain ⟨k, w, b, M, r, K, c, t, ru, hc, hr, ho⟩ := h
  refine qi_q hc hr ho (fun ν hν => ?_)
  obtain ⟨x1, x2, x3, x4, x5, x6, x7, x8⟩ := hc
  obtain ⟨y1, y2, y3, y4, y5, y6, y7, y8, y9⟩ := hν
  exact q_shortest d e x1 x2 x5 y1 y2 y5 x y
theorem s_round (d e : Nat) {μ : jM} (h : SI μ) : QI (fun m => CL (d + 6) 176 [jR 0] m) (fun m => CL (e + 7) 280 [jR 69] m) μ := by
  obtain ⟨k, w, b, M, r, K, c, t, ru, hc, hr, ho⟩ := h
  refine qi_q hc hr ho (fun ν hν => ?_)
  obtain ⟨x1, x2, x3, x4, x5, x6, x7, x8⟩ := hc
  obtain ⟨y1, y2, y3, y4, y5, y6, y7, y8, y9⟩ := hν
  exact q_round d e x1 x2 x5 y1 y2 y5
theorem s_game (d e : Nat) {μ : jM} (h : SI μ) : QI (fun m => CL (d + 6) 189 [jR 0] m) (fun m => CL (e + 7) 294 [jR 69] m) μ := by
  obtain ⟨k, w, b, M, r, K, c, t, ru, hc, hr, ho⟩ := h
  refine qi_q hc hr ho (fun ν hν => ?_)
  obtain ⟨x1, x2, x3, x4, x5, x6, x7, x8⟩ := hc
  obtain ⟨y1, y2, y3, y4, y5, y6, y7, y8, y9⟩ := hν
  exact q_game d e x1 x2 x3 y1 y2 y3 ho.1
theorem s_greedy (d e : Nat) {μ : jM} (h : SI μ) : QI (fun m => CL (d + 7) 190 [jR 0] m) (fun m => CL (e + 253) 296 [jR 69] m) μ := by
  obtain ⟨k, w, b, M, r, K, c, t, ru, hc, hr, ho⟩ := h
  refine qi_q hc hr ho (fun ν hν => ?_)
  obtain ⟨x1, x2, x3, x4, x5, x6, x7, x8⟩ := hc
  obtain ⟨y1, y2, y3, y4, y5, y6, y7, y8, y9⟩ := hν
  exact q_greedy d e x1 x2 x3 x8 y1 y2 y3 y9 ho.1
theorem s_best (d e : Nat) {μ : jM} (h : SI μ) (x y : Int) : QI (fun m => CL (d + 7) 183 [jR 0, jI x, jI y] m) (fun m => CL (e + 255) 287 [jR 69, jI x, jI y] m) μ := by
  obtain ⟨k, w, b, M, r, K, c, t, ru, hc, hr, ho⟩ := h
  refine qi_q hc hr ho (fun ν hν => ?_)
  obtain ⟨x1, x2, x3, x4, x5, x6, x7, x8⟩ := hc
  obtain ⟨y1, y2, y3, y4, y5, y6, y7, y8, y9⟩ := hν
  exact q_best d e x1 x2 x3 x5 x8 y1 y2 y3 y5 y9 ho.1 x y
theorem s_fair (d e : Nat) {μ : jM} (h : SI μ) (x y : Int) : QI (fun m => CL (d + 7) 184 [jR 0, jI x, jI y] m) (fun m => CL (e + 255) 288 [jR 69, jI x, jI y] m) μ := by
  obtain ⟨k, w, b, M, r, K, c, t, ru, hc, hr, ho⟩ := h
  refine qi_q hc hr ho (fun ν hν => ?_)
  obtain ⟨x1, x2, x3, x4, x5, x6, x7, x8⟩ := hc
  obtain ⟨y1, y2, y3, y4, y5, y6, y7, y8, y9⟩ := hν
  exact q_fair d e x1 x2 x3 x5 x8 y1 y2 y3 y5 y9 ho.1 x y
theorem s_cheap (d e : Nat) {μ : jM} (h : SI μ) (x : Int) : QI (fun m => CL (d + 7) 185 [jR 0, jI x] m) (fun m => CL (e + 255) 290 [jR 69, jI x] m) μ := by
  obtain ⟨k, w, b, M, r, K, c, t, ru, hc, hr, ho⟩ := h
  refine qi_q hc hr ho (fun ν hν => ?_)
  obtain ⟨x1, x2, x3, x4, x5, x6, x7, x8⟩ := hc
  obtain ⟨y1, y2, y3, y4, y5, y6, y7, y8, y9⟩ := hν
  exact q_cheap d e x1 x2 x3 x5 y1 y2 y3 y5 y9 ho.1 x
theorem s_dear (d e : Nat) {μ : jM} (h : SI μ) (x : Int) : QI (fun m => CL (d + 7) 186 [jR 0, jI x] m) (fun m => CL (e + 255) 291 [jR 69, jI x] m) μ := by
  obtain ⟨k, w, b, M, r, K, c, t, ru, hc, hr, ho⟩ := h
  refine qi_q hc hr ho (fun ν hν => ?_)
  obtain ⟨x1, x2, x3, x4, x5, x6, x7, x8⟩ := hc
  obtain ⟨y1, y2, y3, y4, y5, y6, y7, y8, y9⟩ := hν
  exact q_dear d e x1 x2 x3 x5 y1 y2 y3 y5 y9 ho.1 x
theorem s_shut (d e : Nat) {μ : jM} (h : SI μ) (x : Int) : QI (fun m => CL (d + 6) 177 [jR 0, jI x] m) (fun m => CL (e + 6) 281 [jR 69, jI x] m) μ := by
  obtain ⟨k, w, b, M, r, K, c, t, ru, hc, hr, ho⟩ := h
  refine qi_q hc hr ho (fun ν hν => ?_)
  obtain ⟨x1, x2, x3, x4, x5, x6, x7, x8⟩ := hc
  obtain ⟨y1, y2, y3, y4, y5, y6, y7, y8, y9⟩ := hν
  obtain ⟨v, μ', ν', a1, a2, a3, a4, a5, a6⟩ := q_shut d e x1 x2 x5 y1 y2 y5 x
  exact ⟨v, μ', ν', r, a1, a2, a3, a4, a5, a6⟩
theorem s_ways (d e : Nat) {μ : jM} (h : SI μ) (x : Int) : QL (fun m => CL (d + 6) 169 [jR 0, jI x] m) (fun m => CL (e + 6) 270 [jR 69, jI x] m) μ := by
  obtain ⟨k, w, b, M, r, K, c, t, ru, hc, hr, ho⟩ := h
  refine ql_q hc hr ho (fun ν hν => ?_)
  obtain ⟨x1, x2, x3, x4, x5, x6, x7, x8⟩ := hc
  obtain ⟨y1, y2, y3, y4, y5, y6, y7, y8, y9⟩ := hν
  obtain ⟨v, μ', ν', a1, a2, a3, a4, a5, a6⟩ := q_ways d e x1 x2 x3 x5 y1 y2 y3 y5 ho.1 x
  exact ⟨v, μ', ν', r, a1, a2, a3, a4, a5, a6⟩
/-! ### calls that tell out of one state -/
theorem s_can (d e : Nat) {μ : jM} (h : SI μ) : QI (fun m => CL (d + 5) 159 [jR 0] m) (fun m => CL (e + 4) 248 [jR 69] m) μ := by
  obtain ⟨k, w, b, M, r, K, c, t, ru, hc, hr, ho⟩ := h
  refine qi_q hc hr ho (fun ν hν => ?_)
  obtain ⟨x1, x2, x3, x4, x5, x6, x7, x8⟩ := hc
  obtain ⟨y1, y2, y3, y4, y5, y6, y7, y8, y9⟩ := hν
  exact ⟨_, μ, _, r, c_X11_can d x1 x2 x3 ho.1, c_X12_can e y1 y2 y3 ho.1, fC_r μ, fR_0 ν, x5, th0_RR y5⟩
theorem s_beside (d e : Nat) {μ : jM} (h : SI μ) (x : Int) : QI (fun m => CL (d + 4) 173 [jR 0, jI x] m) (fun m => CL (e + 4) 277 [jR 69, jI x] m) μ := by
  obtain ⟨k, w, b, M, r, K, c, t, ru, hc, hr, ho⟩ := h
  refine qi_q hc hr ho (fun ν hν => ?_)
  obtain ⟨x1, x2, x3, x4, x5, x6, x7, x8⟩ := hc
  obtain ⟨y1, y2, y3, y4, y5, y6, y7, y8, y9⟩ := hν
  exact ⟨_, μ, _, r, c_X11_beside d x1 x2 x, c_X12_beside e y1 y2 x, fC_r μ, fR_0 ν, x5, th0_RR y5⟩
theorem s_poison (d e : Nat) {μ : jM} (h : SI μ) (x y : Int) (hy : y < 2147483648) : QI (fun m => CL (d + 5) 197 [jR 0, jI x, jI y] m) (fun m => CL (e + 4) 307 [jR 69, jI x, jI y] m) μ := by
  obtain ⟨k, w, b, M, r, K, c, t, ru, hc, hr, ho⟩ := h
  refine qi_q hc hr ho (fun ν hν => ?_)
  obtain ⟨x1, x2, x3, x4, x5, x6, x7, x8⟩ := hc
  obtain ⟨y1, y2, y3, y4, y5, y6, y7, y8, y9⟩ := hν
  exact ⟨_, μ, _, r, c_X11_poison d x1 x4 ho.2.1 x y hy, c_X12_poison e y1 y4 ho.2.1 x y, fC_r μ, fR_0 ν, x5, th0_RR y5⟩
theorem s_count (d e : Nat) {μ : jM} (h : SI μ) (x : Int) : QI (fun m => CL (d + 4) 202 [jR 0, jI x] m) (fun m => CL (e + 2) 313 [jR 69, jI x] m) μ := by
  obtain ⟨k, w, b, M, r, K, c, t, ru, hc, hr, ho⟩ := h
  refine qi_q hc hr ho (fun ν hν => ?_)
  obtain ⟨x1, x2, x3, x4, x5, x6, x7, x8⟩ := hc
  obtain ⟨y1, y2, y3, y4, y5, y6, y7, y8, y9⟩ := hν
  exact ⟨_, μ, _, r, c_X11_count d x1 x3 x4 x5 x7.2.2.1 x, c_X12_count e y1 y3 ho.1 y4 y5 y8.2.2.1 x, fC_r μ, fR_0 ν, x5, th0_RR y5⟩
theorem s_look (d e : Nat) {μ : jM} (h : SI μ) (x : Int) : QI (fun m => CL (d + 7) 161 [jR 0, jI x] m) (fun m => CL (e + 5) 254 [jR 69, jI x] m) μ := by
  obtain ⟨k, w, b, M, r, K, c, t, ru, hc, hr, ho⟩ := h
  refine qi_q hc hr ho (fun ν hν => ?_)
  obtain ⟨x1, x2, x3, x4, x5, x6, x7, x8⟩ := hc
  obtain ⟨y1, y2, y3, y4, y5, y6, y7, y8, y9⟩ := hν
  obtain ⟨μ', a1, a2, a3⟩ := c_X11_look d x1 x2 x4 ho.2.1 x5 x
  obtain ⟨ν', b1, b2, b3⟩ := c_X12_look e y1 y2 y4 ho.2.1 y5 x
  exact ⟨_, μ', ν', _, a1, b1, a2, b2, a3, b3⟩
theorem s_joined (d e : Nat) {μ : jM} (h : SI μ) (x y : Int) : QI (fun m => CL (d + 7) 164 [jR 0, jI x, jI y] m) (fun m => CL (e + 5) 257 [jR 69, jI x, jI y] m) μ := by
  obtain ⟨k, w, b, M, r, K, c, t, ru, hc, hr, ho⟩ := h
  refine qi_q hc hr ho (fun ν hν => ?_)
  obtain ⟨x1, x2, x3, x4, x5, x6, x7, x8⟩ := hc
  obtain ⟨y1, y2, y3, y4, y5, y6, y7, y8, y9⟩ := hν
  obtain ⟨μ', a1, a2, a3⟩ := c_X11_joined d x1 x2 x4 ho.2.1 x5 x y
  obtain ⟨ν', b1, b2, b3⟩ := c_X12_joined e y1 y2 y4 ho.2.1 y5 x y
  exact ⟨_, μ', ν', _, a1, b1, a2, b2, a3, b3⟩
theorem s_falls (d e : Nat) {μ : jM} (h : SI μ) (x y z : Int) : QI (fun m => CL (d + 7) 165 [jR 0, jI x, jI y, jI z] m) (fun m => CL (e + 6) 259 [jR 69, jI x, jI y, jI z] m) μ := by
  obtain ⟨k, w, b, M, r, K, c, t, ru, hc, hr, ho⟩ := h
  refine qi_q hc hr ho (fun ν hν => ?_)
  obtain ⟨x1, x2, x3, x4, x5, x6, x7, x8⟩ := hc
  obtain ⟨y1, y2, y3, y4, y5, y6, y7, y8, y9⟩ := hν
  obtain ⟨μ', a1, a2⟩ := c_X11_falls d x1 x2 x4 ho.2.1 x y z
  obtain ⟨ν', b1, b2, b3, b4⟩ := c_X12_falls e y1 y2 y4 ho.2.1 x y z
  exact ⟨_, μ', ν', r, a1, b1, fC_18 a2, b2, RI_cg x5 (a2 50 (by decide) (by decide)) (a2 51 (by decide) (by decide)), RR_cg y5 (b3 81 (by decide)) b4⟩
theorem s_parts (d e : Nat) {μ : jM} (h : SI μ) : QI (fun m => CL (d + 5) 174 [jR 0] m) (fun m => CL (e + 4) 278 [jR 69] m) μ := by
  obtain ⟨k, w, b, M, r, K, c, t, ru, hc, hr, ho⟩ := h
  refine qi_q hc hr ho (fun ν hν => ?_)
  obtain ⟨x1, x2, x3, x4, x5, x6, x7, x8⟩ := hc
  obtain ⟨y1, y2, y3, y4, y5, y6, y7, y8, y9⟩ := hν
  obtain ⟨μ', a1, a2, a3⟩ := c_X11_parts d x1 x2
  obtain ⟨ν', b1, b2, b3⟩ := c_X12_parts e y1 y2
  exact ⟨_, μ', ν', _, a1, b1, fC_row a2, b2, a3, b3⟩
theorem s_rare (d e : Nat) {μ : jM} (h : SI μ) : QI (fun m => CL (d + 2) 175 [jR 0] m) (fun m => CL (e + 2) 279 [jR 69] m) μ := by
  obtain ⟨k, w, b, M, r, K, c, t, ru, hc, hr, ho⟩ := h
  refine qi_q hc hr ho (fun ν hν => ?_)
  obtain ⟨x1, x2, x3, x4, x5, x6, x7, x8⟩ := hc
  obtain ⟨y1, y2, y3, y4, y5, y6, y7, y8, y9⟩ := hν
  obtain ⟨μ', a1, a2, a3⟩ := c_X11_rare d x1 x5
  obtain ⟨ν', b1, b2, b3⟩ := c_X12_rare e y1 y5
  exact ⟨_, μ', ν', _, a1, b1, fC_row a2, b2, a3, b3⟩
theorem s_mend (d e : Nat) {μ : jM} (h : SI μ) (x y : Int) : QI (fun m => CL (d + 6) 191 [jR 0, jI x, jI y] m) (fun m => CL (e + 6) 298 [jR 69, jI x, jI y] m) μ := by
  obtain ⟨k, w, b, M, r, K, c, t, ru, hc, hr, ho⟩ := h
  refine qi_q hc hr ho (fun ν hν => ?_)
  obtain ⟨x1, x2, x3, x4, x5, x6, x7, x8⟩ := hc
  obtain ⟨y1, y2, y3, y4, y5, y6, y7, y8, y9⟩ := hν
  obtain ⟨μ', a1, a2, a3⟩ := c_X11_mend d x1 x2 x4 ho.2.1 x5 x y
  obtain ⟨ν', b1, b2, b3⟩ := c_X12_mend e y1 y2 y4 ho.2.1 y5 x y
  have same : mdA 100 k w M x y = mdA mF k w M x y ∧ mdR 100 k w M x y r = mdR mF k w M x y r := by
    cases hw : whol M x with
    | true =>
      obtain ⟨i, hi, e, -, -⟩ := whol_k ho.2.1 hw
      refine mend_same ?_ r
      rw [e, Int.toNat_natCast]
      exact (y4 i hi).1
    | false =>
      unfold mdA mdR
      rw [hw]
      exact ⟨rfl, by rw [if_neg (fun z => by cases z.2.1), if_neg (fun z => by cases z.2.1)]⟩
  rw [same.1] at a1
  rw [same.2] at a3
  exact ⟨_, μ', ν', _, a1, b1, a2, b2, a3, b3⟩
theorem s_fills (d e : Nat) {μ : jM} (h : SI μ) (x : Int) : QL (fun m => CL (d + 7) 192 [jR 0, jI x] m) (fun m => CL (e + 6) 302 [jR 69, jI x] m) μ := by
  obtain ⟨k, w, b, M, r, K, c, t, ru, hc, hr, ho⟩ := h
  refine ql_q hc hr ho (fun ν hν => ?_)
  obtain ⟨x1, x2, x3, x4, x5, x6, x7, x8⟩ := hc
  obtain ⟨y1, y2, y3, y4, y5, y6, y7, y8, y9⟩ := hν
  obtain ⟨μ', a1, a2, a3⟩ := c_X11_fills d x1 x2 x4 ho.2.1 x5 x
  obtain ⟨ν', b1, b2, b3⟩ := c_X12_fills e y1 y2 y4 ho.2.1 y5 x
  exact ⟨_, μ', ν', _, a1, b1, a2, b2, a3, b3⟩
theorem s_sure (d e : Nat) {μ : jM} (h : SI μ) (x y : Int) : QI (fun m => CL (d + 7) 193 [jR 0, jI x, jI y] m) (fun m => CL (e + 6) 303 [jR 69, jI x, jI y] m) μ := by
  obtain ⟨k, w, b, M, r, K, c, t, ru, hc, hr, ho⟩ := h
  refine qi_q hc hr ho (fun ν hν => ?_)
  obtain ⟨x1, x2, x3, x4, x5, x6, x7, x8⟩ := hc
  obtain ⟨y1, y2, y3, y4, y5, y6, y7, y8, y9⟩ := hν
  obtain ⟨μ', a1, a2, a3⟩ := c_X11_sure d x1 x2 x4 ho.2.1 x5 x y
  obtain ⟨ν', b1, b2, b3, b4⟩ := c_X12_sure e y1 y2 y4 ho.2.1 y5 x y
  exact ⟨_, μ', ν', _, a1, b1, a2, b2, a3, b4⟩
theorem s_hearths (d e : Nat) {μ : jM} (h : SI μ) (x : Int) : QI (fun m => CL (d + 4) 195 [jR 0, jI x] m) (fun m => CL (e + 4) 304 [jR 69, jI x] m) μ := by
  obtain ⟨k, w, b, M, r, K, c, t, ru, hc, hr, ho⟩ := h
  refine qi_q hc hr ho (fun ν hν => ?_)
  obtain ⟨x1, x2, x3, x4, x5, x6, x7, x8⟩ := hc
  obtain ⟨y1, y2, y3, y4, y5, y6, y7, y8, y9⟩ := hν
  obtain ⟨μ', a1, a2, a3⟩ := c_X11_hearths d x1 x4 ho.2.1 x5 x
  obtain ⟨ν', b1, b2, b3⟩ := c_X12_hearths e y1 y4 ho.2.1 y5 x
  exact ⟨_, μ', ν', _, a1, b1, a2, b2, a3, b3⟩
theorem s_late (d e : Nat) {μ : jM} (h : SI μ) (x y : Int) : QI (fun m => CL (d + 4) 196 [jR 0, jI x, jI y] m) (fun m => CL (e + 4) 305 [jR 69, jI x, jI y] m) μ := by
  obtain ⟨k, w, b, M, r, K, c, t, ru, hc, hr, ho⟩ := h
  refine qi_q hc hr ho (fun ν hν => ?_)
  obtain ⟨x1, x2, x3, x4, x5, x6, x7, x8⟩ := hc
  obtain ⟨y1, y2, y3, y4, y5, y6, y7, y8, y9⟩ := hν
  obtain ⟨μ', a1, a2, a3⟩ := c_X11_late d x1 x4 ho.2.1 x5 x y
  obtain ⟨ν', b1, b2, b3⟩ := c_X12_late e y1 y4 ho.2.1 y5 x y
  exact ⟨_, μ', ν', _, a1, b1, a2, b2, a3, b3⟩
theorem s_eats (d e : Nat) {μ : jM} (h : SI μ) (x y : Int) : QI (fun m => CL (d + 5) 198 [jR 0, jI x, jI y] m) (fun m => CL (e + 251) 308 [jR 69, jI x, jI y] m) μ := by
  obtain ⟨k, w, b, M, r, K, c, t, ru, hc, hr, ho⟩ := h
  refine qi_q hc hr ho (fun ν hν => ?_)
  obtain ⟨x1, x2, x3, x4, x5, x6, x7, x8⟩ := hc
  obtain ⟨y1, y2, y3, y4, y5, y6, y7, y8, y9⟩ := hν
  obtain ⟨μ', a1, a2, a3⟩ := c_X11_eats d x1 x4 ho.2.1 x8 x5 x y
  obtain ⟨ν', b1, b2, b3⟩ := c_X12_eats e y1 y4 ho.2.1 y9 y5 x y
  exact ⟨_, μ', ν', _, a1, b1, a2, b2, a3, b3⟩
theorem s_made (d e : Nat) {μ : jM} (h : SI μ) : QI (fun m => CL (d + 6) 199 [jR 0] m) (fun m => CL (e + 4) 310 [jR 69] m) μ := by
  obtain ⟨k, w, b, M, r, K, c, t, ru, hc, hr, ho⟩ := h
  have hq : ∀ ν, rS ν k w b M r K c t ru → ∃ (v : Int) (μ' ν' : jM) (r' : List Int), CL (d + 6) 199 [jR 0] μ = rI v μ' ∧ CL (e + 4) 310 [jR 69] ν = rI v ν' ∧ fC μ' μ ∧ ((∀ q, q ≠ 69 → q ≠ 71 → q ≠ 72 → q ≠ 73 → q ≠ 81 → q ≠ 95 → ν' q = ν q) ∧ ∀ j : Int, j ≠ 19 → j ≠ 20 → ν' 69 j = ν 69 j) ∧ KR ν' k ∧ RI μ' r' ∧ RR ν' r' := fun ν hν => q_made d e hc.1 hc.2.1 hc.2.2.2.2.1 hν.1 hν.2.1 hν.2.2.2.2.1
  obtain ⟨v, μ1, ν0, r0, e1, -, f1, -, -, -, -⟩ := hq μ hr
  have hr1 := rS_hi hr (fun q hq => f1.1 q (by omega))
  obtain ⟨v2, μ2, ν2, r2, e2, g2, f2, ⟨h2, i2⟩, k2, x2, yr⟩ := hq μ1 hr1
  obtain ⟨a1, a2⟩ := rI_inj (e1.symm.trans e2)
  subst a1
  subst a2
  obtain ⟨y1, y2, y3, y4, y5, y6, y7, y8, y9⟩ := hr1
  refine ⟨v, μ1, ν2, e1, g2, k, w, b, M, r2, K, c, t, ru, cS_lo (cS_C hc f1 x2) (fun q hq => h2 q (by omega) (by omega) (by omega) (by omega) (by omega) (by omega)), ?_, ho⟩
  exact ⟨k2, LR_cg y2 (h2 70 (by decide) (by decide) (by decide) (by decide) (by decide) (by decide)) (i2 9 (by decide) (by decide)) (i2 10 (by decide) (by decide)) (i2 11 (by decide) (by decide)), SR_cg y3 (h2 77 (by decide) (by decide) (by decide) (by decide) (by decide) (by decide)) (i2 13 (by decide) (by decide)), MR_cg y4 (h2 79 (by decide) (by decide) (by decide) (by decide) (by decide) (by decide)) (h2 78 (by decide) (by decide) (by decide) (by decide) (by decide) (by decide)), yr, KD2_cg y6 (fun q _ _ => h2 q (by omega) (by omega) (by omega) (by omega) (by omega) (by omega)), by rw [i2 49 (by decide) (by decide)]; exact y7, TR_cg y8 (i2 17 (by decide) (by decide)) (h2 80 (by decide) (by decide) (by decide) (by decide) (by decide) (by decide)), TaR_cg y9 (i2 27 (by decide) (by decide)) (h2 82 (by decide) (by decide) (by decide) (by decide) (by decide) (by decide))⟩
