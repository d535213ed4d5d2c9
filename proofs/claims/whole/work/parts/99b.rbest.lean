/-! ## best, fair, cheap, dear: the reference -/
def fB (ν' ν : jM) : Prop := (∀ q, q < 69 ∨ (69 < q ∧ q < 83) ∨ 86 < q → ν' q = ν q) ∧ ∀ j : Int, (j < 21 ∨ (29 < j ∧ j ≠ 39) ∨ j = 26 ∨ j = 27) → ν' 69 j = ν 69 j
theorem fB_r (ν : jM) : fB ν ν := ⟨fun _ _ => rfl, fun _ _ => rfl⟩
theorem fB_t {ν1 ν2 ν3 : jM} (h1 : fB ν2 ν1) (h2 : fB ν3 ν2) : fB ν3 ν1 := ⟨fun q a => (h2.1 q a).trans (h1.1 q a), fun j a => (h2.2 j a).trans (h1.2 j a)⟩
theorem fB_J {ν' ν : jM} (h : fJ ν' ν) : fB ν' ν := ⟨fun q a => h.1 q (by omega), fun j a => h.2 j (by omega)⟩
theorem fB_q {ν' ν : jM} {p : Nat} (hp : 83 ≤ p ∧ p ≤ 86) (h : ∀ q, q ≠ p → ν' q = ν q) : fB ν' ν := ⟨fun q a => h q (by omega), fun j _ => by rw [h 69 (by omega)]⟩
theorem fB_u {ν : jM} {p : Nat} (hp : 83 ≤ p ∧ p ≤ 86) (i v : Int) : fB (jup ν p i v) ν := fB_q hp (fun q hq => jup_ne hq)
theorem fB_39 (ν : jM) (v : Int) : fB (jup ν 69 39 v) ν := ⟨fun q a => jup_ne (by omega), fun j a => jup_m (by omega)⟩
theorem fB_KR {ν' ν : jM} {k : Kt} (f : fB ν' ν) (h : KR ν k) : KR ν' k := KR_cg h (fun q _ _ => f.1 q (by omega)) (f.2 1 (by omega)) (f.2 6 (by omega))
theorem fB_LR {ν' ν : jM} {w : Lw} (f : fB ν' ν) (h : LR ν w) : LR ν' w := LR_cg h (f.1 70 (by omega)) (f.2 9 (by omega)) (f.2 10 (by omega)) (f.2 11 (by omega))
theorem fB_SR {ν' ν : jM} {b : List Nat} (f : fB ν' ν) (h : SR ν b) : SR ν' b := SR_cg h (f.1 77 (by omega)) (f.2 13 (by omega))
theorem fB_RR {ν' ν : jM} {r : List Int} (f : fB ν' ν) (h : RR ν r) : RR ν' r := RR_cg h (f.1 81 (by omega)) (f.2 19 (by omega))
theorem fB_TaR {ν' ν : jM} {r : List Nat} (f : fB ν' ν) (h : TaR ν r) : TaR ν' r := ⟨h.1, (f.2 27 (by omega)).trans h.2.1, fun i hi => by rw [f.1 82 (by omega)]; exact h.2.2 i hi⟩
theorem fR_B {ν' ν : jM} (h : fB ν' ν) : fR ν' ν := ⟨fun q a => h.1 q (by omega), fun j a => h.2 j (by omega)⟩
/-! sums -/
def js (k : Kt) (r : List Nat) (g t : Nat) : Int := ws (fun x => joyv k r g x) t
theorem js_b (k : Kt) (r : List Nat) (g t : Nat) : -9990 ≤ js k r g t ∧ js k r g t ≤ 9990 := by
  have := ws_b (f := fun x => joyv k r g x) (t := t) (B := 999) (by decide) (fun x _ _ => joyv_b k r g x)
  unfold js
  omega
theorem c_X12_joyIn (d : Nat) {μ : jM} {k : Kt} {r : List Nat} (hk : KR μ k) (hr : TaR μ r) (t g : Nat) (ht : t < 2 ^ kn k) (hg : g < kg k) : ∃ μ', CL (d + 251) 282 [jR 69, jI t, jI g] μ = rI (js k r g t) μ' ∧ fJ μ' μ := by
  have h10 := hk.1.1
  have hN := p2_le h10
  let F : Nat → Int := fun x => if t.testBit x then joyv k r g x else 0
  obtain ⟨m, e1, f1⟩ := lp_i (fun (x : Nat) (m : jM) => EV (d + 250) T_X12_joyIn 1 [some (jR 69), some (jI t), some (jI g), some (jI (sm F x)), some (jI x)] [] m) (fun _ m => fJ m μ) (kn k) (fun x m hx f => by
    have f : fJ m μ := f
    have km := fJ_KR f hk
    have b1 := sm_b (f := F) (B := 999) x (fun i _ => by
      have := joyv_b k r g i
      show -999 ≤ (if t.testBit i then joyv k r g i else 0) ∧ (if t.testBit i then joyv k r g i else 0) ≤ 999
      split <;> omega)
    have b2 := joyv_b k r g x
    show ∃ s', EV (d + 250) T_X12_joyIn 1 [some (jR 69), some (jI t), some (jI g), some (jI (sm F x)), some (jI x)] [] m = EV (d + 250) T_X12_joyIn 1 [some (jR 69), some (jI t), some (jI g), some (jI (sm F x + F x)), some (jI ((x + 1 : Nat) : Int))] [] s' ∧ fJ s' μ
    rw [e_X12_joyIn_1, km.2.1, if_pos (by omega), c_X12_has _ _ t x (by omega) (by omega), bI_r, w_s x (by omega)]
    cases hb : t.testBit x with
    | false =>
      have hF : F x = 0 := by
        show (if t.testBit x then joyv k r g x else 0) = 0
        rw [hb, if_neg (by decide)]
      rw [z_f, hF, w_id (by omega) (by omega)]
      exact ⟨m, rfl, f⟩
    | true =>
      have hF : F x = joyv k r g x := by
        show (if t.testBit x then joyv k r g x else 0) = _
        rw [hb, if_pos rfl]
      obtain ⟨m2, e2, f2⟩ := c_X12_joyOf d km (fJ_TaR f hr) g x hg hx
      rw [z_t, e2, bI_r, hF, w_id (by omega) (by omega)]
      exact ⟨m2, rfl, fJ_t f f2⟩) μ (fJ_r μ)
  have f1 : fJ m μ := f1
  refine ⟨m, ?_, f1⟩
  rw [e_X12_joyIn]
  refine Eq.trans e1 ?_
  show EV (d + 250) T_X12_joyIn 1 [some (jR 69), some (jI t), some (jI g), some (jI (sm F (kn k))), some (jI (kn k))] [] m = _
  rw [e_X12_joyIn_1, (fJ_KR f1 hk).2.1, if_neg (by omega)]
  unfold js
  rw [ws_kn h10 _ ht]
theorem c_X12_costIn (d : Nat) {μ : jM} {k : Kt} (hk : KR μ k) (t : Nat) (ht : t < 2 ^ kn k) : CL (d + 2) 283 [jR 69, jI t] μ = rI (kcs k t) μ := by
  have h10 := hk.1.1
  have hN := p2_le h10
  let F : Nat → Int := fun x => if t.testBit x then (kco k x : Int) else 0
  rw [e_X12_costIn]
  refine (lp_0 (fun x : Nat => EV (d + 1) T_X12_costIn 1 [some (jR 69), some (jI t), some (jI (sm F x)), some (jI x)] [] μ) (kn k) (fun x hx => ?_)).trans ?_
  · have hc := (hk.1.2.2.1 x hx).2.2.1
    have hv := (hk.2.2.2.1 x hx).2.1
    have b1 := sm_b (f := F) (B := 99) x (fun i hi => by
      have := (hk.1.2.2.1 i (by omega)).2.2.1
      show -99 ≤ (if t.testBit i then (kco k i : Int) else 0) ∧ (if t.testBit i then (kco k i : Int) else 0) ≤ 99
      split <;> omega)
    show EV (d + 1) T_X12_costIn 1 [some (jR 69), some (jI t), some (jI (sm F x)), some (jI x)] [] μ = EV (d + 1) T_X12_costIn 1 [some (jR 69), some (jI t), some (jI (sm F x + F x)), some (jI ((x + 1 : Nat) : Int))] [] μ
    rw [e_X12_costIn_1, hk.2.1, if_pos (by omega), c_X12_has _ _ t x (by omega) (by omega), bI_r, w_s x (by omega)]
    cases hb : t.testBit x with
    | false =>
      have hF : F x = 0 := by
        show (if t.testBit x then (kco k x : Int) else 0) = 0
        rw [hb, if_neg (by decide)]
      rw [z_f, hF, w_id (by omega) (by omega)]
    | true =>
      have hF : F x = (kco k x : Int) := by
        show (if t.testBit x then (kco k x : Int) else 0) = _
        rw [hb, if_pos rfl]
      rw [z_t, gd_t (by omega), hv, hF, w_id (by omega) (by omega)]
  · rw [e_X12_costIn_1, hk.2.1, if_neg (by omega)]
    rfl
/-- what a set is worth -/
def vsc (k : Kt) (r : List Nat) (c t : Nat) : Int := if c = 2 then -(kcs k t) else if c = 3 then kcs k t else if c = 0 then sm (fun g => js k r g t) (kg k) else wo (fun g x => joyv k r g x) t (kg k)
theorem wo_hi {W : Nat → Nat → Int} {t : Nat} : ∀ n, wo W t n ≤ 1000000
  | 0 => Int.le_refl 1000000
  | n + 1 => by
    have := wo_hi (W := W) (t := t) n
    show min (wo W t n) (ws (W n) t) ≤ 1000000
    omega
theorem vsc_b {k : Kt} (hk : Kok k) (r : List Nat) (c t : Nat) : -60000 ≤ vsc k r c t ∧ vsc k r c t ≤ 1000000 := by
  have h1 := kcs_b2 hk t
  have h2 := sm_b (f := fun g => js k r g t) (B := 9990) (kg k) (fun g _ => js_b k r g t)
  have h3 := hk.2.1
  have h4 := wo_b (W := fun g x => joyv k r g x) (t := t) (n := kg k) (fun g x _ _ _ => by have := joyv_b k r g x; omega)
  have h5 := wo_hi (W := fun g x => joyv k r g x) (t := t) (kg k)
  unfold vsc
  repeat' split
  all_goals omega
theorem c_X12_scoreOf (d : Nat) {μ : jM} {k : Kt} {r : List Nat} (hk : KR μ k) (hr : TaR μ r) (t c : Nat) (ht : t < 2 ^ kn k) (hc : c < 4) : ∃ μ', CL (d + 252) 284 [jR 69, jI t, jI c] μ = rI (vsc k r c t) μ' ∧ fJ μ' μ := by
  have h6 := hk.1.2.1
  have hb := kcs_b2 hk.1 t
  rw [e_X12_scoreOf]
  unfold vsc
  by_cases c2 : c = 2
  · rw [if_pos (by omega), if_pos c2, c_X12_costIn _ hk t ht, bI_r, w_id (by omega) (by omega)]
    exact ⟨μ, rfl, fJ_r μ⟩
  rw [if_neg (by omega), if_neg c2]
  by_cases c3 : c = 3
  · rw [if_pos (by omega), if_pos c3, c_X12_costIn _ hk t ht, bI_r]
    exact ⟨μ, rfl, fJ_r μ⟩
  rw [if_neg (by omega), if_neg c3]
  obtain ⟨m, e1, f1⟩ := lp_i (fun (g : Nat) (m : jM) => EV (d + 251) T_X12_scoreOf 1 [some (jR 69), some (jI t), some (jI c), some (jI (sm (fun g => js k r g t) g)), some (jI (wo (fun g x => joyv k r g x) t g)), some (jI g), none] [] m) (fun _ m => fJ m μ) (kg k) (fun g m hg f => by
    have f : fJ m μ := f
    have km := fJ_KR f hk
    have b1 := sm_b (f := fun g => js k r g t) (B := 9990) g (fun g _ => js_b k r g t)
    have b2 := js_b k r g t
    obtain ⟨m2, e2, f2⟩ := c_X12_joyIn d km (fJ_TaR f hr) t g ht hg
    refine ⟨m2, ?_, fJ_t f f2⟩
    show EV (d + 251) T_X12_scoreOf 1 _ [] m = _
    rw [e_X12_scoreOf_1, km.2.2.1, if_pos (by omega), e2, bI_r, w_s g (by omega), w_id (by omega) (by omega)]
    rfl) μ (fJ_r μ)
  have f1 : fJ m μ := f1
  refine ⟨m, ?_, f1⟩
  refine Eq.trans e1 ?_
  show EV (d + 251) T_X12_scoreOf 1 [some (jR 69), some (jI t), some (jI c), some (jI (sm (fun g => js k r g t) (kg k))), some (jI (wo (fun g x => joyv k r g x) t (kg k))), some (jI (kg k)), none] [] m = _
  rw [e_X12_scoreOf_1, (fJ_KR f1 hk).2.2.1, if_neg (by omega)]
  by_cases c0 : c = 0
  · rw [if_pos (by omega), if_pos c0]
  · rw [if_neg (by omega), if_neg c0]
/-- does a set come -/
def qcm (k : Kt) (w : Lw) (A : Ap) (s0 l0 a : Nat) : Nat → Bool := anb (fun j => rr k w A s0 l0 a (lx j))
def qj (k : Kt) (w : Lw) (A : Ap) (s0 l0 N : Nat) (P : Int) (a : Nat) : Bool := qcm k w A s0 l0 a (kn k + 1) && (decide (pc a = pc s0 + N) && decide (kcs k (nd a s0) ≤ P))
theorem lx_in {k : Kt} {l : Nat} (h : l = 10 ∨ l < kn k) : ∃ j, j < kn k + 1 ∧ lx j = l := by
  rcases h with z | z
  · exact ⟨0, by omega, by rw [z]; rfl⟩
  · exact ⟨l + 1, by omega, lx_s l⟩
theorem GJ_qj {k : Kt} (hk : Kok k) {w : Lw} {A : Ap} {s0 l0 : Nat} (h0 : Sok k s0 l0) {N : Nat} {P : Int} {a : Nat} : qj k w A s0 l0 N P a = true ↔ ∃ l, GJ k w A s0 l0 N P a l = true := by
  unfold qj
  rw [Bool.and_eq_true, Bool.and_eq_true, decide_eq_true_eq, decide_eq_true_eq]
  constructor
  · rintro ⟨h1, h2, h3⟩
    obtain ⟨j, -, hj⟩ := anb_iff.mp h1
    exact ⟨lx j, GJ_i.mpr ⟨hj, h2, h3⟩⟩
  · rintro ⟨l, hl⟩
    obtain ⟨h1, h2, h3⟩ := GJ_i.mp hl
    obtain ⟨j, hj, ej⟩ := lx_in (rr_Stt hk h0 h1).2.1
    exact ⟨anb_iff.mpr ⟨j, hj, by rw [ej]; exact h1⟩, h2, h3⟩
theorem c_X12_findBest (d : Nat) {μ : jM} {k : Kt} {w : Lw} {b : List Nat} {r : List Nat} (hk : KR μ k) (hw : LR μ w) (hb : SR μ b) (hbk : Bok (kn k) b) (hr : TaR μ r) (N : Nat) (hN : N ≤ 10) (P : Int) (c : Nat) (hc : c < 4) (sb : Nat) (hsb : sb < 1024) : ∃ μ', fB μ' μ ∧ ((CL (d + 253) 285 [jR 69, jI N, jI P, jI c, jI sb] μ = rI 0 μ' ∧ ∀ s l, GJ k w (fun _ x => sb.testBit x) (bset b) (bla b) N P s l = false) ∨ ∃ g : Int, CL (d + 253) 285 [jR 69, jI N, jI P, jI c, jI sb] μ = rI 1 μ' ∧ μ' 69 39 = g ∧ (∃ s l, GJ k w (fun _ x => sb.testBit x) (bset b) (bla b) N P s l = true ∧ vsc k r c (nd s (bset b)) = g) ∧ (∀ s l, GJ k w (fun _ x => sb.testBit x) (bset b) (bla b) N P s l = true → vsc k r c (nd s (bset b)) ≤ g) ∧ (∀ s l, Stt k s l → μ' 83 ((11 * s + l : Nat) : Int) = if (GJ k w (fun _ x => sb.testBit x) (bset b) (bla b) N P s l && decide (vsc k r c (nd s (bset b)) = g)) then 1 else 0) ∧ ∀ s l, Stt k s l → μ' 84 ((11 * s + l : Nat) : Int) = if ce (SS k w (fun _ x => sb.testBit x) (bset b)) (fun s l => GJ k w (fun _ x => sb.testBit x) (bset b) (bla b) N P s l && decide (vsc k r c (nd s (bset b)) = g)) s l then 1 else 0) := by
  have hko := hk.1
  have h10 := hko.1
  have hN2 := p2_le h10
  have hS0 := Sok_b hbk
  have hs0 := hS0.1
  have hpcb := bset_pc hb.1
  have hbl := Bok_len hb.1
  let A : Ap := fun _ x => sb.testBit x
  let s0 := bset b
  let l0 := bla b
  have hps : pc s0 = b.length := hpcb
  obtain ⟨μ1, e1, f1, t1⟩ := c_X12_findRows (d + 247) hk hw hS0 sb hsb
  have g1 : fB μ1 μ := fB_q (by omega) f1
  let v : Nat → Int := fun a => vsc k r c (nd a s0)
  let q : Nat → Bool := qj k w A s0 l0 N P
  have hv : ∀ a, -60000 ≤ v a ∧ v a ≤ 1000000 := fun a => vsc_b hko r c _
  -- the scores
  let I : Nat → Bool × jM → Prop := fun a s => fB s.2 μ ∧ s.2 85 = μ1 85 ∧ (∀ t : Nat, t < a → s.2 86 (t : Int) = if q t then v t else -1000001) ∧ s.1 = anb q a ∧ (s.1 = true → (∃ t, t < a ∧ q t = true ∧ v t = s.2 69 39) ∧ ∀ t, t < a → q t = true → v t ≤ s.2 69 39)
  let H1 : Nat → Bool × jM → Option jO := fun a s => EV (d + 252) T_X12_findBest 1 [some (jR 69), some (jI N), some (jI P), some (jI c), some (jI sb), some (jI s0), some (jI (if s.1 then 1 else 0)), some (jI a), none, none] [] s.2
  obtain ⟨sE, eE, iE⟩ := lp_i H1 I (2 ^ kn k) (fun a s ha hI => by
    obtain ⟨f, h85, h86, hany, hbest⟩ := hI
    have km := fB_KR f hk
    let m0 : jM := jup s.2 86 (a : Int) (-1000001)
    have f0 : fB m0 μ := fB_t f (fB_u (by omega) _ _)
    have k0 := fB_KR f0 hk
    have h850 : m0 85 = μ1 85 := (jup_ne (by decide)).trans h85
    have inner := lp_0 (fun j : Nat => EV (d + 252) T_X12_findBest 2 [some (jR 69), some (jI N), some (jI P), some (jI c), some (jI sb), some (jI s0), some (jI (if s.1 then 1 else 0)), some (jI a), some (jI (if qcm k w A s0 l0 a j then 1 else 0)), some (jI ((j : Int) - 1))] [] m0) (kn k + 1) (fun j hj => by
      have hjx := lx_le (show j ≤ kn k by omega) h10
      have hs : qcm k w A s0 l0 a (j + 1) = (qcm k w A s0 l0 a j || rr k w A s0 l0 a (lx j)) := rfl
      show EV (d + 252) T_X12_findBest 2 _ [] m0 = EV (d + 252) T_X12_findBest 2 _ [] m0
      rw [e_X12_findBest_2, k0.2.1, if_pos (by omega), hs]
      cases hq : qcm k w A s0 l0 a j with
      | true =>
        rw [z_t, x_inc _ (by omega), Bool.true_or]
        rfl
      | false =>
        rw [z_f, x_isState _ _ a j (by omega) (by omega), bI_r, x_inc _ (by omega), Bool.false_or]
        cases hi : ist a (lx j) with
        | false =>
          have : rr k w A s0 l0 a (lx j) = false := by
            cases hrr : rr k w A s0 l0 a (lx j) with
            | false => rfl
            | true =>
              have := (rr_Stt hko hS0 hrr).2.2
              rw [hi] at this
              cases this
          rw [z_f, this]
          rfl
        | true =>
          have hst : Stt k a (lx j) := ⟨ha, lx_kn hj, hi⟩
          rw [z_t, x_place _ _ a j (by omega) (by omega), bI_r, gd_t (by omega), ite_jcmp, h850, t1 a _ hst]
          cases hrr : rr k w A s0 l0 a (lx j) with
          | false =>
            have := nwr_no hrr
            rw [show nwr k w (fun _ x => sb.testBit x) (bset b) (bla b) a (lx j) = 0 from this]
            rfl
          | true =>
            have hp := hrr
            rw [← nwr_rr, decide_eq_true_eq] at hp
            rw [if_pos hp]
            rfl)
    have start : H1 a s = EV (d + 252) T_X12_findBest 2 [some (jR 69), some (jI N), some (jI P), some (jI c), some (jI sb), some (jI s0), some (jI (if s.1 then 1 else 0)), some (jI a), some (jI (if qcm k w A s0 l0 a (kn k + 1) then 1 else 0)), some (jI (((kn k + 1 : Nat) : Int) - 1))] [] m0 := by
      show EV (d + 252) T_X12_findBest 1 _ [] s.2 = _
      rw [e_X12_findBest_1, c_X12_all _ km, bI_r, if_neg (by omega), gd_t (by omega)]
      exact inner
    have hs86 : ∀ (m : jM), m 86 = m0 86 → ∀ t : Nat, t < a → m 86 (t : Int) = if q t then v t else -1000001 := fun m hm t ht => by
      rw [hm]
      show jup s.2 86 (a : Int) (-1000001) 86 (t : Int) = _
      rw [jup_m (by omega)]
      exact h86 t ht
    have skip : q a = false → ∀ m : jM, fB m μ → m 85 = μ1 85 → m 86 = m0 86 → m 69 39 = m0 69 39 → I (a + 1) (s.1, m) := fun hqa m fm m85 m86 m39 => by
      refine ⟨fm, m85, fun t ht => ?_, ?_, fun hs => ?_⟩
      · by_cases hta : t = a
        · rw [hta, hqa, if_neg (by decide)]
          show m 86 (a : Int) = _
          rw [m86]
          exact jup_r _ _ _ _
        · exact hs86 m m86 t (by omega)
      · show s.1 = (anb q a || q a)
        rw [hqa, Bool.or_false]
        exact hany
      · obtain ⟨⟨t, x1, x2, x3⟩, x4⟩ := hbest hs
        have e39 : m 69 39 = s.2 69 39 := by
          rw [m39]
          exact congrFun (jup_ne (show (69 : Nat) ≠ 86 by decide)) 39
        refine ⟨⟨t, by omega, x2, by show v t = m 69 39; rw [e39]; exact x3⟩, fun t ht hq => ?_⟩
        show v t ≤ m 69 39
        rw [e39]
        by_cases hta : t = a
        · rw [hta, hqa] at hq
          cases hq
        · exact x4 t (by omega) hq
    rw [start, e_X12_findBest_2, k0.2.1, if_neg (by omega)]
    have hpca := pc_le (n := 10) (show a < 2 ^ 10 by omega) (by decide)
    cases hq1 : qcm k w A s0 l0 a (kn k + 1) with
    | false =>
      have hqa : q a = false := by
        show (qcm k w A s0 l0 a (kn k + 1) && _) = false
        rw [hq1, Bool.false_and]
      rw [z_f, w_s a (by omega)]
      exact ⟨(s.1, m0), rfl, skip hqa m0 f0 h850 rfl rfl⟩
    | true =>
      have hqa : q a = (decide (pc a = pc s0 + N) && decide (kcs k (nd a s0) ≤ P)) := by
        show (qcm k w A s0 l0 a (kn k + 1) && _) = _
        rw [hq1, Bool.true_and]
      have hcost := kcs_b2 hko (nd a s0)
      have hnd := nd_lt2 (b := s0) ha
      have b0 := fB_SR f0 hb
      rw [z_t, c_bc _ _ _ (by omega), bI_r, b0.2.1, w_id (by omega) (by omega), w_s a (by omega)]
      by_cases hp : pc a = pc s0 + N
      · rw [decide_eq_true hp, Bool.true_and] at hqa
        rw [if_pos (by omega), from_nd a s0 (by omega) (by omega), c_X12_costIn _ k0 _ hnd, bI_r]
        by_cases hcp : kcs k (nd a s0) ≤ P
        · rw [decide_eq_true hcp] at hqa
          obtain ⟨m2, e2, f2⟩ := c_X12_scoreOf d k0 (fB_TaR f0 hr) (nd a s0) c hnd hc
          let m3 : jM := jup m2 86 (a : Int) (v a)
          have f3 : fB m3 μ := fB_t f0 (fB_t (fB_J f2) (fB_u (by omega) _ _))
          have m385 : m3 85 = μ1 85 := (jup_ne (by decide)).trans ((f2.1 85 (by decide)).trans h850)
          have m386 : ∀ t : Nat, t < a + 1 → m3 86 (t : Int) = if q t then v t else -1000001 := fun t ht => by
            by_cases hta : t = a
            · rw [hta, hqa, if_pos rfl]
              exact jup_r _ _ _ _
            · show jup m2 86 (a : Int) (v a) 86 (t : Int) = _
              rw [jup_m (by omega)]
              exact hs86 m2 (f2.1 86 (by decide)) t (by omega)
          have m339 : m3 69 39 = s.2 69 39 := by
            show jup m2 86 (a : Int) (v a) 69 39 = _
            rw [jup_ne (by decide), f2.2 39 (by omega)]
            exact congrFun (jup_ne (show (69 : Nat) ≠ 86 by decide)) 39
          have e86 : m3 86 (a : Int) = v a := jup_r _ _ _ _
          have take : (s.1 = true → s.2 69 39 < v a) → I (a + 1) (true, jup m3 69 39 (v a)) := fun hlt => by
            refine ⟨fB_t f3 (fB_39 m3 _), (show jup m3 69 39 (v a) 85 = m3 85 from jup_ne (by decide)).trans m385, fun t ht => ?_, ?_, fun _ => ⟨⟨a, by omega, hqa, ?_⟩, fun t ht hq => ?_⟩⟩
            · show jup m3 69 39 (v a) 86 (t : Int) = _
              rw [jup_ne (by decide)]
              exact m386 t ht
            · show true = (anb q a || q a)
              rw [hqa, Bool.or_true]
            · exact (jup_r m3 69 39 (v a)).symm
            · show v t ≤ jup m3 69 39 (v a) 69 39
              rw [jup_r]
              by_cases hta : t = a
              · rw [hta]
                exact Int.le_refl _
              · have hs : s.1 = true := by
                  rw [hany]
                  exact anb_iff.mpr ⟨t, by omega, hq⟩
                have := (hbest hs).2 t (by omega) hq
                have := hlt hs
                omega
          rw [if_neg (by omega), e2, bI_r, gd_t (by omega)]
          cases hs1 : s.1 with
          | false =>
            rw [z_f, gd_t (by omega)]
            refine ⟨(true, jup m3 69 39 (v a)), ?_, take (fun z => by rw [hs1] at z; cases z)⟩
            show EV (d + 252) T_X12_findBest 1 _ [] (jup m3 69 39 (m3 86 (a : Int))) = _
            rw [e86]
            rfl
          | true =>
            rw [z_t, gd_t (by omega)]
            show ∃ s', (if m3 69 39 < m3 86 (a : Int) then gd (0 ≤ (a : Int) ∧ (a : Int) < 1024) (EV (d + 252) T_X12_findBest 1 _ [] (jup m3 69 39 (m3 86 (a : Int)))) else EV (d + 252) T_X12_findBest 1 _ [] m3) = _ ∧ _
            rw [e86, m339]
            by_cases hlt : s.2 69 39 < v a
            · rw [if_pos hlt, gd_t (by omega)]
              exact ⟨(true, jup m3 69 39 (v a)), rfl, take (fun _ => hlt)⟩
            · rw [if_neg hlt]
              refine ⟨(true, m3), rfl, f3, m385, m386, ?_, fun _ => ?_⟩
              · show true = (anb q a || q a)
                rw [hqa, Bool.or_true]
              · obtain ⟨⟨t, x1, x2, x3⟩, x4⟩ := hbest hs1
                refine ⟨⟨t, by omega, x2, by show v t = m3 69 39; rw [m339]; exact x3⟩, fun t ht hq => ?_⟩
                show v t ≤ m3 69 39
                rw [m339]
                by_cases hta : t = a
                · rw [hta]
                  omega
                · exact x4 t (by omega) hq
        · rw [decide_eq_false hcp] at hqa
          rw [if_pos (by omega)]
          exact ⟨(s.1, m0), rfl, skip hqa m0 f0 h850 rfl rfl⟩
      · rw [decide_eq_false hp, Bool.false_and] at hqa
        rw [if_neg (by omega)]
        exact ⟨(s.1, m0), rfl, skip hqa m0 f0 h850 rfl rfl⟩) (false, μ1) ⟨g1, rfl, fun t ht => absurd ht (Nat.not_lt_zero t), rfl, fun z => by cases z⟩
  obtain ⟨fE, E85, E86, Eany, Ebest⟩ := iE
  have kE := fB_KR fE hk
  have wE := fB_LR fE hw
  have head : CL (d + 253) 285 [jR 69, jI N, jI P, jI c, jI sb] μ = H1 (2 ^ kn k) sE := by
    rw [e_X12_findBest, c_X12_servedSet _ hb, bI_r, c_X12_servedLast _ hb, bI_r, e1, bV_r]
    exact eE
  have hall : H1 (2 ^ kn k) sE = if (if sE.1 = true then (1 : Int) else 0) = 0 then rI 0 sE.2 else bV (CL (d + 252) 264 [jR 69] sE.2) fun μ2 => EV (d + 252) T_X12_findBest 3 [some (jR 69), none, none, none, some (jI sb), none, none, some (jI 0), none, none] [] μ2 := by
    show EV (d + 252) T_X12_findBest 1 _ [] sE.2 = _
    rw [e_X12_findBest_1, c_X12_all _ kE, bI_r, if_pos (by omega), gd_t (by omega)]
  rw [head, hall]
  cases hs : sE.1 with
  | false =>
    refine ⟨sE.2, fE, Or.inl ⟨z_f, fun s l => ?_⟩⟩
    cases hg : GJ k w (fun _ x => sb.testBit x) (bset b) (bla b) N P s l with
    | false => rfl
    | true =>
      have h1 := (GJ_qj hko hS0).mpr ⟨l, hg⟩
      have h2 : anb q (2 ^ kn k) = true := anb_iff.mpr ⟨s, (rr_Stt hko hS0 (GJ_i.mp hg).1).1, h1⟩
      rw [← Eany, hs] at h2
      cases h2
  | true =>
    obtain ⟨⟨tb, tb1, tb2, tb3⟩, tball⟩ := Ebest hs
    let g : Int := sE.2 69 39
    have hg60 : -60000 ≤ g := by
      have := hv tb
      show -60000 ≤ sE.2 69 39
      omega
    let Em : Nat → Nat → Bool := fun s l => GJ k w A s0 l0 N P s l && decide (v s = g)
    let μ2 : jM := jpre sE.2 83 (fun _ => 0) 11264
    have f2 : ∀ q, q ≠ 83 → μ2 q = sE.2 q := fun q hq => jpre_ne hq
    have g2 : fB μ2 μ := fB_t fE (fB_q (by omega) f2)
    rw [z_t, c_X12_noEnds, bV_r]
    -- the ends
    obtain ⟨μ3, e3, g3, t3, h85, h86, h39⟩ := lp_i (fun (a : Nat) (m : jM) => EV (d + 252) T_X12_findBest 3 [some (jR 69), none, none, none, some (jI sb), none, none, some (jI a), none, none] [] m) (fun a m => fB m μ ∧ TE m 83 k Em a 0 ∧ m 85 = μ1 85 ∧ m 86 = sE.2 86 ∧ m 69 39 = g) (2 ^ kn k) (fun a m ha hI => by
      obtain ⟨f, t, h85, h86, h39⟩ := hI
      have km := fB_KR f hk
      show ∃ s', EV (d + 252) T_X12_findBest 3 [some (jR 69), none, none, none, some (jI sb), none, none, some (jI a), none, none] [] m = EV (d + 252) T_X12_findBest 3 [some (jR 69), none, none, none, some (jI sb), none, none, some (jI ((a + 1 : Nat) : Int)), none, none] [] s' ∧ _
      rw [e_X12_findBest_3, c_X12_all _ km, bI_r, if_neg (by omega), gd_t (by omega), h86, E86 a ha, h39, w_s a (by omega)]
      have nno : (∀ l, Em a l = false) → TE m 83 k Em (a + 1) 0 := fun hz => by
        have : ∀ j, j ≤ kn k + 1 → TE m 83 k Em a j := fun j => by
          induction j with
          | zero => exact fun _ => t
          | succ j ih => exact fun hj => TE_stay (by omega) (ih (by omega)) (fun _ => hz _)
        exact TE_end (this (kn k + 1) (Nat.le_refl _))
      by_cases hqa : q a = true
      · rw [hqa, if_pos rfl]
        by_cases hva : v a = g
        · have hqd := hqa
          have hqd : (qcm k w A s0 l0 a (kn k + 1) && (decide (pc a = pc s0 + N) && decide (kcs k (nd a s0) ≤ P))) = true := hqd
          rw [Bool.and_eq_true, Bool.and_eq_true, decide_eq_true_eq, decide_eq_true_eq] at hqd
          have hEa : ∀ l, Em a l = rr k w A s0 l0 a l := fun l => by
            show (rr k w A s0 l0 a l && (decide (pc a = pc s0 + N) && decide (kcs k (nd a s0) ≤ P)) && decide (v a = g)) = _
            rw [decide_eq_true hqd.2.1, decide_eq_true hqd.2.2, decide_eq_true hva, Bool.and_true, Bool.and_true, Bool.and_true]
          rw [if_pos hva]
          obtain ⟨m2, e2, x1, x2, x3, x4, x5⟩ := lp_i (fun (j : Nat) (m : jM) => EV (d + 252) T_X12_findBest 4 [some (jR 69), none, none, none, some (jI sb), none, none, some (jI a), some (jI ((j : Int) - 1)), none] [] m) (fun j m => fB m μ ∧ TE m 83 k Em a j ∧ m 85 = μ1 85 ∧ m 86 = sE.2 86 ∧ m 69 39 = g) (kn k + 1) (fun j m hj hI => by
            obtain ⟨f, t, h85, h86, h39⟩ := hI
            have km := fB_KR f hk
            have hjx := lx_le (show j ≤ kn k by omega) h10
            have go : ∀ vv : Int, vv = (if Em a (lx j) then 1 else 0) → fB (jup m 83 ((11 * a + lx j : Nat) : Int) vv) μ ∧ TE (jup m 83 ((11 * a + lx j : Nat) : Int) vv) 83 k Em a (j + 1) ∧ jup m 83 ((11 * a + lx j : Nat) : Int) vv 85 = μ1 85 ∧ jup m 83 ((11 * a + lx j : Nat) : Int) vv 86 = sE.2 86 ∧ jup m 83 ((11 * a + lx j : Nat) : Int) vv 69 39 = g := fun vv hvv => ⟨fB_t f (fB_u (by omega) _ _), TE_up hko (by omega) t hvv, (jup_ne (by decide)).trans h85, (jup_ne (by decide)).trans h86, (congrFun (jup_ne (show (69 : Nat) ≠ 83 by decide)) 39).trans h39⟩
            show ∃ s', EV (d + 252) T_X12_findBest 4 [some (jR 69), none, none, none, some (jI sb), none, none, some (jI a), some (jI ((j : Int) - 1)), none] [] m = EV (d + 252) T_X12_findBest 4 [some (jR 69), none, none, none, some (jI sb), none, none, some (jI a), some (jI (((j + 1 : Nat) : Int) - 1)), none] [] s' ∧ _
            rw [e_X12_findBest_4, km.2.1, if_pos (by omega), x_place _ _ a j (by omega) (by omega), bI_r, x_isState _ _ a j (by omega) (by omega), bI_r, x_inc _ (by omega)]
            cases hi : ist a (lx j) with
            | false =>
              have hrr : rr k w A s0 l0 a (lx j) = false := by
                cases hrr : rr k w A s0 l0 a (lx j) with
                | false => rfl
                | true =>
                  have := (rr_Stt hko hS0 hrr).2.2
                  rw [hi] at this
                  cases this
              rw [z_f, gd_t (by omega), gd_t (by decide)]
              exact ⟨_, rfl, go 0 (by rw [hEa, hrr]; rfl)⟩
            | true =>
              have hst : Stt k a (lx j) := ⟨ha, lx_kn hj, hi⟩
              rw [z_t, x_place _ _ a j (by omega) (by omega), bI_r, gd_t (by omega), ite_jcmp, h85, t1 a _ hst]
              cases hrr : rr k w A s0 l0 a (lx j) with
              | false =>
                have := nwr_no hrr
                rw [show nwr k w (fun _ x => sb.testBit x) (bset b) (bla b) a (lx j) = 0 from this, if_neg (by decide), gd_t (by omega), gd_t (by decide)]
                exact ⟨_, rfl, go 0 (by rw [hEa, hrr]; rfl)⟩
              | true =>
                have hp := hrr
                rw [← nwr_rr, decide_eq_true_eq] at hp
                rw [if_pos hp, gd_t (by omega), gd_t (by decide)]
                exact ⟨_, rfl, go 1 (by rw [hEa, hrr]; rfl)⟩) m ⟨f, t, h85, h86, h39⟩
          have x1 : fB m2 μ := x1
          have x2 : TE m2 83 k Em a (kn k + 1) := x2
          refine ⟨m2, ?_, x1, TE_end x2, x3, x4, x5⟩
          refine Eq.trans e2 ?_
          show EV (d + 252) T_X12_findBest 4 [some (jR 69), none, none, none, some (jI sb), none, none, some (jI a), some (jI (((kn k + 1 : Nat) : Int) - 1)), none] [] m2 = _
          rw [e_X12_findBest_4, (fB_KR x1 hk).2.1, if_neg (by omega), w_s a (by omega)]
        · rw [if_neg hva]
          exact ⟨m, rfl, f, nno (fun l => by show (_ && decide (v a = g)) = false; rw [decide_eq_false hva, Bool.and_false]), h85, h86, h39⟩
      · have hqa : q a = false := by simpa using hqa
        rw [hqa, if_neg (show ¬ (false = true) by decide), if_neg (by omega)]
        refine ⟨m, rfl, f, nno (fun l => ?_), h85, h86, h39⟩
        cases hgj : GJ k w A s0 l0 N P a l with
        | false =>
          show (GJ k w A s0 l0 N P a l && _) = false
          rw [hgj, Bool.false_and]
        | true =>
          have : q a = true := (GJ_qj hko hS0).mpr ⟨l, hgj⟩
          rw [hqa] at this
          cases this) μ2 ⟨g2, TE_0 _ 83 k hko Em, (f2 85 (by decide)).trans E85, f2 86 (by decide), by rw [f2 69 (by decide)]⟩
    have g3 : fB μ3 μ := g3
    have t3 : TE μ3 83 k Em (2 ^ kn k) 0 := t3
    have h39 : μ3 69 39 = g := h39
    have k3 := fB_KR g3 hk
    have w3 := fB_LR g3 hw
    obtain ⟨μ4, e4, f4, t4⟩ := c_X12_findEnds (d + 247) k3 w3 sb hsb s0 (TE_N t3)
    have g4 : fB μ4 μ := fB_t g3 (fB_q (by omega) f4)
    have e3 : EV (d + 252) T_X12_findBest 3 [some (jR 69), none, none, none, some (jI sb), none, none, some (jI 0), none, none] [] μ2 = EV (d + 252) T_X12_findBest 3 [some (jR 69), none, none, none, some (jI sb), none, none, some (jI ((2 ^ kn k : Nat) : Int)), none, none] [] μ3 := e3
    refine ⟨μ4, g4, Or.inr ⟨g, ?_, by rw [f4 69 (by decide)]; exact h39, ?_, fun s l hsl => ?_, fun s l hs => ?_, t4⟩⟩
    · rw [e3, e_X12_findBest_3, c_X12_all _ k3, bI_r, if_pos (by omega), e4, bV_r, gd_t (by omega)]
    · obtain ⟨l, hl⟩ := (GJ_qj hko hS0).mp tb2
      exact ⟨tb, l, hl, tb3⟩
    · exact tball s (rr_Stt hko hS0 (GJ_i.mp hsl).1).1 ((GJ_qj hko hS0).mpr ⟨l, hsl⟩)
    · rw [f4 83 (by decide)]
      exact TE_N t3 s l hs
