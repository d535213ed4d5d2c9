/-! ## JOY: the reference -/
def fJ (ν' ν : jM) : Prop := (∀ q, q ≠ 69 → ν' q = ν q) ∧ ∀ j : Int, (j < 21 ∨ 29 < j ∨ j = 26 ∨ j = 27) → ν' 69 j = ν 69 j
theorem fJ_r (ν : jM) : fJ ν ν := ⟨fun _ _ => rfl, fun _ _ => rfl⟩
theorem fJ_t {ν1 ν2 ν3 : jM} (h1 : fJ ν2 ν1) (h2 : fJ ν3 ν2) : fJ ν3 ν1 := ⟨fun q a => (h2.1 q a).trans (h1.1 q a), fun j a => (h2.2 j a).trans (h1.2 j a)⟩
theorem fJ_KR {ν' ν : jM} {k : Kt} (f : fJ ν' ν) (h : KR ν k) : KR ν' k := KR_cg h (fun q _ _ => f.1 q (by omega)) (f.2 1 (by omega)) (f.2 6 (by omega))
theorem fJ_LR {ν' ν : jM} {w : Lw} (f : fJ ν' ν) (h : LR ν w) : LR ν' w := LR_cg h (f.1 70 (by decide)) (f.2 9 (by omega)) (f.2 10 (by omega)) (f.2 11 (by omega))
theorem fJ_TaR {ν' ν : jM} {r : List Nat} (f : fJ ν' ν) (h : TaR ν r) : TaR ν' r := ⟨h.1, (f.2 27 (by omega)).trans h.2.1, fun i hi => by rw [f.1 82 (by decide)]; exact h.2.2 i hi⟩
theorem fJ_cg {ν ν0 ν' ν0' : jM} (h : fJ ν' ν) (e1 : ν = ν0) (e2 : ν' = ν0') : fJ ν0' ν0 := by
  subst e1
  subst e2
  exact h
theorem c_X12_letter (d : Nat) {ν : jM} {k : Kt} (hk : KR ν k) {g x : Nat} (hg : g < kg k) (hx : x < kn k) (h28 : ν 69 28 = (g : Int)) (h29 : ν 69 29 = (x : Int)) (c : Int) (hc : isq c = true) : CL (d + 2) 227 [jR 69, jI c] ν = rI (qual k g x c) ν := by
  have h10 := hk.1.1
  have h6 := hk.1.2.1
  have h1 := hk.1.2.2.1 x hx
  have h2 := hk.1.2.2.2 g hg
  obtain ⟨v1, v2, v3, v4⟩ := hk.2.2.2.1 x hx
  obtain ⟨u1, u2⟩ := hk.2.2.2.2 g hg
  have a1 := Nat.and_le_left (n := kst k x) (m := kba k g)
  have a2 := Nat.and_le_left (n := kst k x) (m := klo k g)
  rw [e_X12_letter, h28, h29]
  unfold qual
  have hq := isq_i.mp hc
  by_cases c1 : c = 98
  · rw [if_pos c1, if_pos c1, gd_t (by omega), gd_t (by omega), v1, u2, and_nn _ _ (by omega) (by omega), c_bc _ _ _ (by omega), bI_r]
  rw [if_neg c1, if_neg c1]
  by_cases c2 : c = 99
  · rw [if_pos c2, if_pos c2, gd_t (by omega), v2]
  rw [if_neg c2, if_neg c2]
  by_cases c3 : c = 100
  · subst c3
    rfl
  rw [if_neg c3, if_neg (by omega), if_neg (by omega)]
  by_cases c4 : c = 103
  · rw [if_pos c4, if_pos c4]
  rw [if_neg c4, if_neg c4]
  by_cases c5 : c = 104
  · rw [if_pos c5, if_pos c5, gd_t (by omega), v3]
    by_cases z : khe k x = 0
    · rw [if_pos (by omega), z]
      rfl
    · rw [if_neg (by omega), show khe k x = 1 by omega]
      rfl
  rw [if_neg c5, if_neg c5, if_neg (by omega), if_neg (by omega), if_neg (by omega)]
  by_cases c6 : c = 108
  · rw [if_pos c6, if_pos c6, gd_t (by omega), gd_t (by omega), v1, u1, and_nn _ _ (by omega) (by omega), c_bc _ _ _ (by omega), bI_r]
  rw [if_neg c6, if_neg c6, if_neg (by omega)]
  by_cases c7 : c = 110
  · rw [if_pos c7, if_pos c7, gd_t (by omega), v1, c_bc _ _ _ (by omega), bI_r]
  rw [if_neg c7, if_neg c7, if_pos (by omega), if_pos (by omega), gd_t (by omega), v4]
theorem c_X12_joyOf (d : Nat) {μ : jM} {k : Kt} {r : List Nat} (hk : KR μ k) (hr : TaR μ r) (g x : Nat) (hg : g < kg k) (hx : x < kn k) : ∃ μ', CL (d + 250) 229 [jR 69, jI g, jI x] μ = rI (joyv k r g x) μ' ∧ fJ μ' μ := by
  have h10 := hk.1.1
  have h6 := hk.1.2.1
  have h1 := hk.1.2.2.1 x hx
  have h2 := hk.1.2.2.2 g hg
  obtain ⟨v1, -, -, -⟩ := hk.2.2.2.1 x hx
  obtain ⟨u1, -⟩ := hk.2.2.2.2 g hg
  obtain ⟨hok, r27, r82⟩ := hr
  rw [e_X12_joyOf, r27]
  unfold joyv
  by_cases h0 : r.length = 0
  · have a2 := Nat.and_le_left (n := kst k x) (m := klo k g)
    rw [if_pos (by omega), if_pos h0, gd_t (by omega), gd_t (by omega), v1, u1, and_nn _ _ (by omega) (by omega), c_bc _ _ _ (by omega), bI_r]
    exact ⟨μ, rfl, fJ_r μ⟩
  · let m1 : jM := jup (jup (jup (jup (jup (jup (jup μ 69 21 (82 : Nat)) 69 22 (r.length : Nat)) 69 23 40) 69 24 0) 69 25 (-1)) 69 28 (g : Int)) 69 29 (x : Int)
    have n1 : ∀ q, q ≠ 69 → m1 q = μ q := fun q hq => by
      show jup (jup (jup (jup (jup (jup (jup μ 69 21 _) 69 22 _) 69 23 40) 69 24 0) 69 25 (-1)) 69 28 _) 69 29 _ q = _
      rw [jup_ne hq, jup_ne hq, jup_ne hq, jup_ne hq, jup_ne hq, jup_ne hq, jup_ne hq]
    have j1 : ∀ j : Int, (j < 21 ∨ 29 < j ∨ j = 26 ∨ j = 27) → m1 69 j = μ 69 j := fun j a => by
      show jup (jup (jup (jup (jup (jup (jup μ 69 21 _) 69 22 _) 69 23 40) 69 24 0) 69 25 (-1)) 69 28 _) 69 29 _ 69 j = _
      rw [jup_m (by omega), jup_m (by omega), jup_m (by omega), jup_m (by omega), jup_m (by omega), jup_m (by omega), jup_m (by omega)]
    have v29 : m1 69 29 = (x : Int) := jup_r _ _ _ _
    have v28 : m1 69 28 = (g : Int) := (jup_m (by decide)).trans (jup_r _ _ _ _)
    have v25 : m1 69 25 = -1 := (jup_m (by decide)).trans ((jup_m (by decide)).trans (jup_r _ _ _ _))
    have v24 : m1 69 24 = 0 := (jup_m (by decide)).trans ((jup_m (by decide)).trans ((jup_m (by decide)).trans (jup_r _ _ _ _)))
    have v23 : m1 69 23 = 40 := (jup_m (by decide)).trans ((jup_m (by decide)).trans ((jup_m (by decide)).trans ((jup_m (by decide)).trans (jup_r _ _ _ _))))
    have v22 : m1 69 22 = (r.length : Int) := (jup_m (by decide)).trans ((jup_m (by decide)).trans ((jup_m (by decide)).trans ((jup_m (by decide)).trans ((jup_m (by decide)).trans (jup_r _ _ _ _)))))
    have v21 : m1 69 21 = ((82 : Nat) : Int) := (jup_m (by decide)).trans ((jup_m (by decide)).trans ((jup_m (by decide)).trans ((jup_m (by decide)).trans ((jup_m (by decide)).trans ((jup_m (by decide)).trans (jup_r _ _ _ _))))))
    have hrl := hok.1
    have hB1 : RB m1 82 r 40 := ⟨Or.inr rfl, v21, v22, v23, by rw [show LN 82 = 40 by decide]; omega, hok.2.1, fun i hi => by rw [n1 82 (by decide)]; exact r82 i hi⟩
    have hE : RdE m1 82 r (qual k g x) := ⟨hB1, qual_b hk.1 hg hx, fun d ν f p c hp hp40 hc => by
      have e28 : jup ν 69 24 ((p + 1 : Nat) : Int) 69 28 = (g : Int) := (jup_m (by decide)).trans ((f.2 28 (by decide) (by decide)).trans v28)
      have e29 : jup ν 69 24 ((p + 1 : Nat) : Int) 69 29 = (x : Int) := (jup_m (by decide)).trans ((f.2 29 (by decide) (by decide)).trans v29)
      have hkn : KR (jup ν 69 24 ((p + 1 : Nat) : Int)) k := KR_cg hk (fun q a b => (jup_ne (by omega)).trans ((f.1 q (by omega)).trans (n1 q (by omega)))) ((jup_m (by decide)).trans ((f.2 1 (by decide) (by decide)).trans (j1 1 (by omega)))) ((jup_m (by decide)).trans ((f.2 6 (by decide) (by decide)).trans (j1 6 (by omega))))
      rw [e_X12_thing_3, hp, w_s p (by omega), e28, if_neg (by omega), c_X12_letter _ hkn hg hx e28 e29 c hc, bI_r]⟩
    have hS : StR m1 m1 0 := ⟨fR2_r m1, v24, v25, by decide⟩
    obtain ⟨l, hl⟩ := hok.2.2
    have eP : ruP r = pEx (tcb r 40) 4 0 := if_neg h0
    have hx2 := (c_X12_exp hE 4 0 rfl d 0 m1 hS).2 (l, r.length) (by rw [← eP]; exact hl)
    obtain ⟨v, e, dn⟩ := hx2
    have e : CL (d + 249) 223 [jR 69, jI 0] m1 = rI v (jup m1 69 24 (r.length : Nat)) := e
    have ec : ruC r = l := by
      unfold ruC
      rw [hl]
    have ev : (runc (qual k g x) (ruC r) []).headD 0 = v := by
      rw [ec, dn.2]
      rfl
    rw [if_neg (by omega), if_neg h0, e_X12_begin, bV_r, ev]
    show ∃ μ', (bI (CL (d + 249) 223 [jR 69, jI 0] m1) fun x2 μ2 => rI (max (-999) (min 999 x2)) μ2) = _ ∧ _
    rw [e, bI_r]
    exact ⟨_, rfl, ⟨fun q a => (jup_ne a).trans (n1 q a), fun j a => (jup_m (by omega)).trans (j1 j a)⟩⟩
theorem c_X12_joyOfAll (d : Nat) {μ : jM} {k : Kt} {r : List Nat} (hk : KR μ k) (hr : TaR μ r) (x : Nat) (hx : x < kn k) : ∃ μ', CL (d + 251) 230 [jR 69, jI x] μ = rI (jall k r x) μ' ∧ fJ μ' μ := by
  have h6 := hk.1.2.1
  rw [e_X12_joyOfAll]
  obtain ⟨m, e1, f1⟩ := lp_i (fun (g : Nat) (m : jM) => EV (d + 250) T_X12_joyOfAll 1 [some (jR 69), some (jI x), some (jI (sm (fun g => joyv k r g x) g)), some (jI g)] [] m) (fun _ m => fJ m μ) (kg k) (fun g m hg f => by
    have f : fJ m μ := f
    obtain ⟨m2, e2, f2⟩ := c_X12_joyOf d (fJ_KR f hk) (fJ_TaR f hr) g x hg hx
    have b1 := sm_b (f := fun g => joyv k r g x) (B := 999) g (fun i _ => joyv_b k r i x)
    have b2 := joyv_b k r g x
    refine ⟨m2, ?_, fJ_t f f2⟩
    show EV (d + 250) T_X12_joyOfAll 1 _ [] m = _
    rw [e_X12_joyOfAll_1, (fJ_KR f hk).2.2.1, if_pos (by omega), e2, bI_r, w_s g (by omega), w_id (by omega) (by omega)]
    rfl) μ (fJ_r μ)
  have f1 : fJ m μ := f1
  refine ⟨m, ?_, f1⟩
  refine Eq.trans e1 ?_
  show EV (d + 250) T_X12_joyOfAll 1 [some (jR 69), some (jI x), some (jI (sm (fun g => joyv k r g x) (kg k))), some (jI (kg k))] [] m = _
  rw [e_X12_joyOfAll_1, (fJ_KR f1 hk).2.2.1, if_neg (by omega)]
  rfl
/-! ## joy and dish: both sides; none: the class throws, the reference says so in its own way -/
def joB (k : Kt) (g x : Int) : Prop := (0 ≤ g ∧ g < kg k) ∧ 0 ≤ x ∧ x < kn k
theorem c_X11_joy (d : Nat) {μ : jM} {k : Kt} {r : List Nat} (hk : KI μ k) (hr : TaC μ r) (g x : Int) : (joB k g x → ∃ μ', CL (d + 5) 151 [jR 0, jI g, jI x] μ = rI (joyv k r g.toNat x.toNat) μ' ∧ fT μ' μ) ∧ (¬ joB k g x → CL (d + 5) 151 [jR 0, jI g, jI x] μ = rT μ) := by
  rw [e_X11_joy, c_X1_hasGuest _ hk, bI_r]
  unfold joB
  by_cases hg : 0 ≤ g ∧ g < kg k
  · rw [if_pos hg, if_neg (by decide), c_X1_hasDish _ hk, bI_r]
    by_cases hx : 0 ≤ x ∧ x < kn k
    · rw [if_pos hx, if_neg (by decide)]
      obtain ⟨a, rfl⟩ := Int.eq_ofNat_of_zero_le hg.1
      obtain ⟨b, rfl⟩ := Int.eq_ofNat_of_zero_le hx.1
      obtain ⟨μ', e, f⟩ := c_X9_of d hk hr a b (by omega) (by omega)
      refine ⟨fun _ => ⟨μ', ?_, f⟩, fun z => absurd ⟨hg, hx⟩ z⟩
      rw [e, bI_r, Int.toNat_natCast, Int.toNat_natCast]
    · rw [if_neg hx, if_pos rfl]
      exact ⟨fun z => absurd z.2 hx, fun _ => rfl⟩
  · rw [if_neg hg, if_pos rfl]
    exact ⟨fun z => absurd z.1 hg, fun _ => rfl⟩
theorem c_X12_joy (d : Nat) {μ : jM} {k : Kt} {r : List Nat} (hk : KR μ k) (hr : TaR μ r) (g x : Int) : (joB k g x → ∃ μ', CL (d + 251) 234 [jR 69, jI g, jI x] μ = rI (joyv k r g.toNat x.toNat) μ' ∧ fJ μ' (jup μ 69 20 0)) ∧ (¬ joB k g x → CL (d + 251) 234 [jR 69, jI g, jI x] μ = rI 0 (jup μ 69 20 1)) := by
  have hk0 := th0_KR hk
  have hr0 : TaR (jup μ 69 20 0) r := ⟨hr.1, (jup_m (by decide)).trans hr.2.1, fun i hi => by rw [jup_ne (by decide)]; exact hr.2.2 i hi⟩
  rw [e_X12_joy, c_X12_isGuest _ hk0, bI_r]
  unfold joB
  by_cases hg : 0 ≤ g ∧ g < kg k
  · rw [if_pos hg, if_neg (by decide), c_X12_isDish _ hk0, bI_r]
    by_cases hx : 0 ≤ x ∧ x < kn k
    · rw [if_pos hx, if_neg (by decide)]
      obtain ⟨a, rfl⟩ := Int.eq_ofNat_of_zero_le hg.1
      obtain ⟨b, rfl⟩ := Int.eq_ofNat_of_zero_le hx.1
      obtain ⟨μ', e, f⟩ := c_X12_joyOf d hk0 hr0 a b (by omega) (by omega)
      refine ⟨fun _ => ⟨μ', ?_, f⟩, fun z => absurd ⟨hg, hx⟩ z⟩
      rw [e, bI_r, Int.toNat_natCast, Int.toNat_natCast]
    · rw [if_neg hx, if_pos rfl, c_X12_lost, bI_r, jup_jup]
      exact ⟨fun z => absurd z.2 hx, fun _ => rfl⟩
  · rw [if_neg hg, if_pos rfl, c_X12_lost, bI_r, jup_jup]
    exact ⟨fun z => absurd z.1 hg, fun _ => rfl⟩
def diB (k : Kt) (x w : Int) : Prop := (0 ≤ x ∧ x < kn k) ∧ 0 ≤ w ∧ w ≤ 5
def diA (k : Kt) (r : List Nat) (x w : Int) : Int := if w = 0 then (kst k x.toNat : Nat) else if w = 1 then (kco k x.toNat : Nat) else if w = 2 then (khe k x.toNat : Nat) else if w = 3 then (kho k x.toNat : Nat) else if w = 4 then jall k r x.toNat else (pc (bm (fun g => khu k g x.toNat) (kg k)) : Nat)
theorem c_X11_dish (d : Nat) {μ : jM} {k : Kt} {r : List Nat} (hk : KI μ k) (hr : TaC μ r) (x w : Int) : (diB k x w → ∃ μ', CL (d + 6) 149 [jR 0, jI x, jI w] μ = rI (diA k r x w) μ' ∧ fT μ' μ) ∧ (¬ diB k x w → CL (d + 6) 149 [jR 0, jI x, jI w] μ = rT μ) := by
  rw [e_X11_dish, c_X1_hasDish _ hk, bI_r]
  unfold diB diA
  by_cases hx : 0 ≤ x ∧ x < kn k
  · obtain ⟨b, rfl⟩ := Int.eq_ofNat_of_zero_le hx.1
    have hb : b < kn k := by omega
    have h6 := hk.1.2.1
    rw [if_pos hx, if_neg (by decide), Int.toNat_natCast]
    refine ⟨fun h => ?_, fun h => ?_⟩
    · rw [if_neg (show ¬ w < 0 by omega), if_neg (show ¬ (5 : Int) < w by omega)]
      by_cases w0 : w = 0
      · rw [if_pos w0, if_pos w0, c_X1_stuffsOf _ hk b hb, bI_r]
        exact ⟨μ, rfl, fT_r μ⟩
      rw [if_neg w0, if_neg w0]
      by_cases w1 : w = 1
      · rw [if_pos w1, if_pos w1, c_X1_costOf _ hk b hb, bI_r]
        exact ⟨μ, rfl, fT_r μ⟩
      rw [if_neg w1, if_neg w1]
      by_cases w2 : w = 2
      · rw [if_pos w2, if_pos w2, c_X1_heatOf _ hk b hb, bI_r]
        exact ⟨μ, rfl, fT_r μ⟩
      rw [if_neg w2, if_neg w2]
      by_cases w3 : w = 3
      · rw [if_pos w3, if_pos w3, c_X1_hoursOf _ hk b hb, bI_r]
        exact ⟨μ, rfl, fT_r μ⟩
      rw [if_neg w3, if_neg w3]
      by_cases w4 : w = 4
      · obtain ⟨μ', e, f⟩ := c_X9_ofAll d hk hr b hb
        rw [if_pos w4, if_pos w4, e, bI_r]
        exact ⟨μ', rfl, f⟩
      have hbm : bm (fun g => khu k g b) (kg k) < 2 ^ 6 := bm_lt' _ h6
      rw [if_neg w4, if_neg w4, c_X1_hungryAt _ hk b hb, bI_r, c_bc _ _ _ (by omega), bI_r]
      exact ⟨μ, rfl, fT_r μ⟩
    · by_cases hw : w < 0
      · rw [if_pos hw]
      · rw [if_neg hw, if_pos (show (5 : Int) < w by omega)]
  · rw [if_neg hx, if_pos rfl]
    exact ⟨fun z => absurd z.1 hx, fun _ => rfl⟩
theorem c_X12_dish (d : Nat) {μ : jM} {k : Kt} {r : List Nat} (hk : KR μ k) (hr : TaR μ r) (x w : Int) : (diB k x w → ∃ μ', CL (d + 252) 232 [jR 69, jI x, jI w] μ = rI (diA k r x w) μ' ∧ fJ μ' (jup μ 69 20 0)) ∧ (¬ diB k x w → CL (d + 252) 232 [jR 69, jI x, jI w] μ = rI 0 (jup μ 69 20 1)) := by
  have hk0 := th0_KR hk
  have hr0 : TaR (jup μ 69 20 0) r := ⟨hr.1, (jup_m (by decide)).trans hr.2.1, fun i hi => by rw [jup_ne (by decide)]; exact hr.2.2 i hi⟩
  rw [e_X12_dish, c_X12_isDish _ hk0, bI_r]
  unfold diB diA
  by_cases hx : 0 ≤ x ∧ x < kn k
  · obtain ⟨b, rfl⟩ := Int.eq_ofNat_of_zero_le hx.1
    have hb : b < kn k := by omega
    have h6 := hk.1.2.1
    have h10 := hk.1.1
    obtain ⟨v1, v2, v3, v4⟩ := hk0.2.2.2.1 b hb
    have h1 := hk.1.2.2.1 b hb
    rw [if_pos hx, if_neg (by decide), Int.toNat_natCast, c_X12_in, bI_r]
    refine ⟨fun h => ?_, fun h => ?_⟩
    · rw [if_pos h.2, if_neg (by decide)]
      have run := lp_0 (fun g : Nat => EV (d + 251) T_X12_dish 1 [some (jR 69), some (jI b), some (jI w), some (jI (pc (bm (fun g => khu k g b) g) : Nat)), some (jI g)] [] (jup μ 69 20 0)) (kg k) (fun g hg => by
        have hpc := pc_12 (bm (fun g => khu k g b) g)
        have hpe : pc (bm (fun g => khu k g b) (g + 1)) = pc (bm (fun g => khu k g b) g) + (if khu k g b then 1 else 0) := by
          cases hh : khu k g b with
          | true =>
            have hb1 : bm (fun g => khu k g b) (g + 1) = bm (fun g => khu k g b) g ||| 2 ^ g := by
              show bm (fun g => khu k g b) g ||| (if khu k g b then 2 ^ g else 0) = _
              rw [hh, if_pos rfl]
            rw [hb1, pc_or1 (n := 10) (by decide) (bm_lt' _ (by omega)) (by omega) (by rw [bm_tb, decide_eq_false (Nat.lt_irrefl g)]; rfl)]
            rfl
          | false =>
            have hb1 : bm (fun g => khu k g b) (g + 1) = bm (fun g => khu k g b) g := by
              show bm (fun g => khu k g b) g ||| (if khu k g b then 2 ^ g else 0) = _
              rw [hh, if_neg (by decide), Nat.or_zero]
            rw [hb1]
            rfl
        show EV (d + 251) T_X12_dish 1 _ [] _ = EV (d + 251) T_X12_dish 1 _ [] _
        rw [e_X12_dish_1, hk0.2.2.1, if_pos (by omega), c_X12_isHungry _ hk0 g b hg hb, bI_r, w_s g (by omega), hpe]
        cases khu k g b with
        | true =>
          rw [z_t, w_s _ (by omega)]
          rfl
        | false =>
          rw [z_f, w_id (by omega) (by omega), Int.add_zero]
          rfl)
      have ep0 : (((pc (bm (fun g => khu k g b) 0) : Nat) : Int)) = 0 := by
        rw [bm_0]
        decide
      have run2 := run
      rw [ep0] at run2
      have head : EV (d + 251) T_X12_dish 1 [some (jR 69), some (jI b), some (jI w), some (jI 0), some (jI 0)] [] (jup μ 69 20 0) = EV (d + 251) T_X12_dish 1 [some (jR 69), some (jI b), some (jI w), some (jI (pc (bm (fun g => khu k g b) (kg k)) : Nat)), some (jI (kg k))] [] (jup μ 69 20 0) := run2
      rw [head, e_X12_dish_1, hk0.2.2.1, if_neg (by omega)]
      by_cases w0 : w = 0
      · rw [if_pos w0, if_pos w0, gd_t (by omega), v1]
        exact ⟨_, rfl, fJ_r _⟩
      rw [if_neg w0, if_neg w0]
      by_cases w1 : w = 1
      · rw [if_pos w1, if_pos w1, gd_t (by omega), v2]
        exact ⟨_, rfl, fJ_r _⟩
      rw [if_neg w1, if_neg w1]
      by_cases w2 : w = 2
      · rw [if_pos w2, if_pos w2, gd_t (by omega), v3]
        refine ⟨_, ?_, fJ_r _⟩
        by_cases z : khe k b = 0
        · rw [if_pos (by omega), z]
          rfl
        · rw [if_neg (by omega), show khe k b = 1 by omega]
          rfl
      rw [if_neg w2, if_neg w2]
      by_cases w3 : w = 3
      · rw [if_pos w3, if_pos w3, gd_t (by omega), v4]
        exact ⟨_, rfl, fJ_r _⟩
      rw [if_neg w3, if_neg w3]
      by_cases w4 : w = 4
      · obtain ⟨μ', e, f⟩ := c_X12_joyOfAll d hk0 hr0 b hb
        rw [if_pos w4, if_pos w4, e, bI_r]
        exact ⟨μ', rfl, f⟩
      rw [if_neg w4, if_neg w4]
      exact ⟨_, rfl, fJ_r _⟩
    · rw [if_neg (show ¬ (0 ≤ w ∧ w ≤ 5) from fun z => h ⟨hx, z⟩), if_pos rfl, c_X12_lost, bI_r, jup_jup]
  · rw [if_neg hx, if_pos rfl, c_X12_lost, bI_r, jup_jup]
    exact ⟨fun z => absurd z.1 hx, fun _ => rfl⟩
