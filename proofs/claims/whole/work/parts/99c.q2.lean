/-! ## best, fair, cheap, dear: both sides -/
theorem fR_J {ν' ν : jM} (h : fJ ν' ν) : fR ν' ν := fR_B (fB_J h)
/-- the row of a best one told by the reference -/
theorem c_bestWay (d : Nat) {μ : jM} {k : Kt} {w : Lw} {b : List Nat} (hk : KR μ k) (hw : LR μ w) (hb : SR μ b) (hbk : Bok (kn k) b) {N : Nat} (hN : N ≤ 10) {P g : Int} {v : Nat → Int} {sb : Nat} (hsb : sb < 1024) (hex : ∃ s l, GJ k w (fun _ x => sb.testBit x) (bset b) (bla b) N P s l = true ∧ v s = g) (hE : ∀ s l, Stt k s l → μ 83 ((11 * s + l : Nat) : Int) = if (GJ k w (fun _ x => sb.testBit x) (bset b) (bla b) N P s l && decide (v s = g)) then 1 else 0) (hC : ∀ s l, Stt k s l → μ 84 ((11 * s + l : Nat) : Int) = if ce (SS k w (fun _ x => sb.testBit x) (bset b)) (fun s l => GJ k w (fun _ x => sb.testBit x) (bset b) (bla b) N P s l && decide (v s = g)) s l then 1 else 0) {ro : List Int} (hro : RR μ ro) (hrl : ro.length ≤ 1) : ∃ μ', CL (d + 5) 266 [jR 69, jI (bset b), jI (lno (bla b)), jI sb] μ = rV μ' ∧ (∀ q, q ≠ 69 → q ≠ 81 → μ' q = μ q) ∧ (∀ j, j ≠ 19 → μ' 69 j = μ 69 j) ∧ RR μ' (ro ++ ri (pth (SS k w (fun _ x => sb.testBit x) (bset b)) (fun s l => GJ k w (fun _ x => sb.testBit x) (bset b) (bla b) N P s l && decide (v s = g)) N (bset b) (bla b))) := by
  have hko := hk.1
  have hS0 := Sok_b hbk
  let A : Ap := fun _ x => sb.testBit x
  let Em : Nat → Nat → Bool := fun s l => GJ k w A (bset b) (bla b) N P s l && decide (v s = g)
  have hEM : ∀ s l, Stt k s l → Em s l = true → pc s = pc (bset b) + N := fun s l _ he => (GJ_i.mp (Bool.and_eq_true_iff.mp he).1).2.1
  obtain ⟨sM, lM, hg1, hg2⟩ := hex
  have hg3 := GJ_i.mp hg1
  have hcr : cr (SS k w A (bset b)) Em N (bset b) (bla b) = true := by
    have hrc : rc k w A (bset b) (bla b) N sM lM = true := by
      have := hg3.1
      unfold rr at this
      rw [hg3.2.1, Nat.add_sub_cancel_left] at this
      exact this
    exact rc_cr hko hS0 (G := Em) N (r := 0) hrc (by
      show (GJ k w A (bset b) (bla b) N P sM lM && decide (v sM = g)) = true
      rw [hg1, decide_eq_true hg2]
      rfl)
  obtain ⟨μ6, e6, f6, g6, r6⟩ := c_X12_tellWay d hk hw sb hsb (bset b) (E := Em) hE hC hEM N (bset b) (bla b) μ ro (fun _ _ _ => rfl) (fun _ _ => rfl) (S_ist hko hS0) rfl hcr hro (by omega)
  refine ⟨μ6, ?_, f6, g6, r6⟩
  rw [e_X12_tellWay, e6]
theorem c_X12_tellBest (d : Nat) {μ : jM} {k : Kt} {w : Lw} {b : List Nat} {ru : List Nat} {r : List Int} (hk : KR μ k) (hw : LR μ w) (hb : SR μ b) (hbk : Bok (kn k) b) (hru : TaR μ ru) (hr : RR μ r) (N P : Nat) (hN : N ≤ 10) (hP : P ≤ 999) (c : Nat) (hc : c = 0 ∨ c = 1 ∧ kg k ≠ 0) : ∃ μ', fR μ' μ ∧ ((CL (d + 254) 286 [jR 69, jI N, jI P, jI c] μ = rI (-2) μ' ∧ (∀ s l, GJ k w (fun _ _ => true) (bset b) (bla b) N P s l = false) ∧ RR μ' r) ∨ ∃ g m row, CL (d + 254) 286 [jR 69, jI N, jI P, jI c] μ = rI 1 μ' ∧ BestP k w (fun _ _ => true) (bset b) (bla b) (GJ k w (fun _ _ => true) (bset b) (bla b) N P) (fun s => vsc k ru c (nd s (bset b))) g m row ∧ RR μ' (g :: ri row)) := by
  have hko := hk.1
  have hsb := X12_sall hko
  have eGJ : GJ k w (fun _ x => (2 ^ kn k - 1).testBit x) (bset b) (bla b) N P = GJ k w (fun _ _ => true) (bset b) (bla b) N P := by
    unfold GJ
    rw [rr_A w sall_A]
  obtain ⟨μ1, f1, r1⟩ := c_X12_findBest d hk hw hb hbk hru N hN (P : Int) c (by omega) (2 ^ kn k - 1) hsb
  have head : CL (d + 254) 286 [jR 69, jI N, jI P, jI c] μ = bI (CL (d + 253) 285 [jR 69, jI N, jI P, jI c, jI ((2 ^ kn k - 1 : Nat) : Int)] μ) fun x11 μ11 => if x11 = 0 then rI (-2) μ11 else bV (CL (d + 253) 209 [jR 69, jI ((jup μ11 69 19 0) 69 39)] (jup μ11 69 19 0)) fun μ12 => bI (CL (d + 253) 243 [jR 69] μ12) fun x13 μ13 => bI (CL (d + 253) 244 [jR 69] μ13) fun x14 μ14 => bI (CL (d + 253) 261 [jR 69] μ14) fun x15 μ15 => bV (CL (d + 253) 266 [jR 69, jI x13, jI x14, jI x15] μ15) fun μ16 => rI 1 μ16 := by
    rw [e_X12_tellBest, c_X12_in, bI_r, if_pos (show (0 : Int) ≤ (N : Int) ∧ (N : Int) ≤ 10 by omega), if_neg (by decide), c_X12_in, bI_r, if_pos (show (0 : Int) ≤ (P : Int) ∧ (P : Int) ≤ 999 by omega), if_neg (by decide)]
    rcases hc with z | ⟨z, y⟩
    · rw [if_neg (by omega), c_X12_all _ hk, bI_r]
    · have h6 := hk.2.2.1
      rw [if_pos (by omega), if_neg (by omega), c_X12_all _ hk, bI_r]
  rw [head]
  rcases r1 with ⟨e1, z1⟩ | ⟨g, e1, h39, hex, hle, hE, hC⟩
  · refine ⟨μ1, fR_B f1, Or.inl ⟨?_, fun s l => by rw [← eGJ]; exact z1 s l, fB_RR f1 hr⟩⟩
    rw [e1, bI_r, if_pos rfl]
  · have k1 := fB_KR f1 hk
    have w1 := fB_LR f1 hw
    have b1 := fB_SR f1 hb
    let μ2 : jM := jup μ1 69 19 0
    have r2 : RR μ2 [] := RR_0 μ1
    obtain ⟨μ3, e3, f3, g3, r3⟩ := c_X12_tell (d + 252) r2 g (by decide)
    have f31 : ∀ q, q ≠ 69 → q ≠ 81 → μ3 q = μ1 q := fun q x y => (f3 q x y).trans (jup_ne x)
    have g31 : ∀ j : Int, j ≠ 19 → μ3 69 j = μ1 69 j := fun j x => (g3 j x).trans (jup_m x)
    have k3 : KR μ3 k := KR_cg k1 (fun q _ _ => f31 q (by omega) (by omega)) (g31 1 (by decide)) (g31 6 (by decide))
    have w3 : LR μ3 w := LR_cg w1 (f31 70 (by decide) (by decide)) (g31 9 (by decide)) (g31 10 (by decide)) (g31 11 (by decide))
    have b3 : SR μ3 b := SR_cg b1 (f31 77 (by decide) (by decide)) (g31 13 (by decide))
    obtain ⟨μ4, e4, f4, g4, r4⟩ := c_bestWay (d + 248) k3 w3 b3 hbk hN hsb (v := fun s => vsc k ru c (nd s (bset b))) hex (fun s l hs => by rw [f31 83 (by decide) (by decide)]; exact hE s l hs) (fun s l hs => by rw [f31 84 (by decide) (by decide)]; exact hC s l hs) r3 (by show 0 + 1 ≤ 1; decide)
    have e39 : jup μ1 69 19 0 69 39 = g := (jup_m (by decide)).trans h39
    refine ⟨μ4, fR_t (fR_B f1) ⟨fun q hq => (f4 q (by omega) (by omega)).trans (f31 q (by omega) (by omega)), fun j hj => (g4 j (by omega)).trans (g31 j (by omega))⟩, Or.inr ⟨g, N, _, ?_, ?_, r4⟩⟩
    · rw [e1, bI_r, if_neg (by decide), e39, e3, bV_r, c_X12_servedSet _ b3, bI_r, c_X12_servedLast _ b3, bI_r, c_X12_all _ k3, bI_r, e4, bV_r]
    · have bp : BestP k w (fun _ x => (2 ^ kn k - 1).testBit x) (bset b) (bla b) (GJ k w (fun _ x => (2 ^ kn k - 1).testBit x) (bset b) (bla b) N P) (fun s => vsc k ru c (nd s (bset b))) g N (pth (SS k w (fun _ x => (2 ^ kn k - 1).testBit x) (bset b)) (fun s l => GJ k w (fun _ x => (2 ^ kn k - 1).testBit x) (bset b) (bla b) N P s l && decide (vsc k ru c (nd s (bset b)) = g)) N (bset b) (bla b)) := ⟨hex, hle, fun s l hs _ => (GJ_i.mp hs).2.1, rfl⟩
      have bp2 := BestP_A (w := w) (A' := fun _ _ => true) sall_A bp
      rw [eGJ] at bp2 ⊢
      exact bp2
theorem ws_add (f g : Nat → Int) (t : Nat) : ws (fun x => f x + g x) t = ws f t + ws g t := by
  unfold ws
  rw [← sm_add]
  exact sm_cg 10 (fun i _ => by
    show (if t.testBit i = true then f i + g i else 0) = (if t.testBit i = true then f i else 0) + (if t.testBit i = true then g i else 0)
    split <;> omega)
theorem js_sum (k : Kt) (r : List Nat) (t : Nat) : ∀ G, sm (fun g => js k r g t) G = ws (fun x => sm (fun g => joyv k r g x) G) t
  | 0 => by
    unfold ws
    refine (sm_0 (fun i _ => ?_)).symm
    show (if t.testBit i = true then (0 : Int) else 0) = 0
    split <;> rfl
  | G + 1 => by
    show sm (fun g => js k r g t) G + ws (fun x => joyv k r G x) t = ws (fun x => sm (fun g => joyv k r g x) G + joyv k r G x) t
    rw [ws_add, js_sum k r t G]
theorem vsc_0 {k : Kt} (hk : Kok k) (r : List Nat) (t : Nat) : vsc k r 0 t = wo (fun _ x => jall k r x) t 1 := by
  have h : vsc k r 0 t = sm (fun g => js k r g t) (kg k) := rfl
  have hb := ws_b (f := fun x => jall k r x) (t := t) (B := 5994) (by decide) (fun x _ _ => jall_b hk r x)
  rw [h, js_sum]
  show ws (fun x => jall k r x) t = min 1000000 (ws (fun x => jall k r x) t)
  omega
theorem th0_TaR {μ : jM} {r : List Nat} (h : TaR μ r) : TaR (jup μ 69 20 0) r := ⟨h.1, (jup_m (by decide)).trans h.2.1, fun i hi => by rw [jup_ne (by decide)]; exact h.2.2 i hi⟩
theorem out_b {x y : Int} (h : ¬ (0 ≤ x ∧ x ≤ 10 ∧ 0 ≤ y ∧ y ≤ 999)) : x < 0 ∨ 10 < x ∨ y < 0 ∨ 999 < y := by omega
theorem q_best (d e : Nat) {μ ν : jM} {k : Kt} {w : Lw} {b : List Nat} {r : List Int} {ru : List Nat} (hk : KI μ k) (hw : LI μ 16 w) (hb : BI μ 20 b) (hr : RI μ r) (ht : TaC μ ru) (gk : KR ν k) (gw : LR ν w) (gb : SR ν b) (gr : RR ν r) (gt : TaR ν ru) (hbk : Bok (kn k) b) (x y : Int) : ∃ v μ' ν' r', CL (d + 7) 183 [jR 0, jI x, jI y] μ = rI v μ' ∧ CL (e + 255) 287 [jR 69, jI x, jI y] ν = rI v ν' ∧ fC μ' μ ∧ fR ν' ν ∧ RI μ' r' ∧ RR ν' r' := by
  have hko := hk.1
  by_cases hxy : 0 ≤ x ∧ x ≤ 10 ∧ 0 ≤ y ∧ y ≤ 999
  · obtain ⟨N, rfl⟩ := Int.eq_ofNat_of_zero_le hxy.1
    obtain ⟨P, rfl⟩ := Int.eq_ofNat_of_zero_le hxy.2.2.1
    obtain ⟨μ', f1, r1⟩ := c_X11_best d hk hw hb hbk hr ht N P (by omega) (by omega)
    obtain ⟨ν', f2, r2⟩ := c_X12_tellBest e (th0_KR gk) (th0_LR gw) (th0_SR gb) hbk (th0_TaR gt) (th0_RR gr) N P (by omega) (by omega) 0 (Or.inl rfl)
    have h2 : ∀ z : Int, CL (e + 254) 286 [jR 69, jI N, jI P, jI ((0 : Nat) : Int)] (jup ν 69 20 0) = rI z ν' → CL (e + 255) 287 [jR 69, jI N, jI P] ν = rI z ν' := fun z hz => by
      have hz : CL (e + 254) 286 [jR 69, jI N, jI P, jI 0] (jup ν 69 20 0) = rI z ν' := hz
      rw [e_X12_best, hz, bI_r]
    rcases r1 with ⟨y1, y2, y3⟩ | ⟨g, m, row, y1, y2, y3⟩
    · rcases r2 with ⟨z1, z2, z3⟩ | ⟨g', m', row', z1, z2, z3⟩
      · exact ⟨-2, μ', ν', r, y1, h2 _ z1, f1, fR_t (fR_0 ν) f2, y3, z3⟩
      · obtain ⟨⟨s, l, a1, -⟩, -⟩ := z2
        rw [y2 s l] at a1
        cases a1
    · rcases r2 with ⟨z1, z2, z3⟩ | ⟨g', m', row', z1, z2, z3⟩
      · obtain ⟨⟨s, l, a1, -⟩, -⟩ := y2
        rw [z2 s l] at a1
        cases a1
      · have z2' := BestP_cg (v' := fun s => wo (fun _ x => jall k ru x) (nd s (bset b)) 1) (fun _ _ => rfl) (fun s l _ => vsc_0 hko ru (nd s (bset b))) z2
        obtain ⟨u1, u2, u3⟩ := BestP_u y2 z2'
        exact ⟨1, μ', ν', g :: ri row, y1, h2 _ z1, f1, fR_t (fR_0 ν) f2, y3, by rw [u1, u3]; exact z3⟩
  · refine ⟨-1, μ, jup ν 69 20 0, r, ?_, ?_, fC_r μ, fR_0 ν, hr, th0_RR gr⟩
    · rw [e_X11_best]
      by_cases c1 : x < 0
      · rw [if_pos c1]
      rw [if_neg c1]
      by_cases c2 : (10 : Int) < x
      · rw [if_pos c2]
      rw [if_neg c2]
      by_cases c3 : y < 0
      · rw [if_pos c3]
      rw [if_neg c3, if_pos (by omega)]
    · rw [e_X12_best, e_X12_tellBest, c_X12_in, bI_r]
      by_cases c1 : 0 ≤ x ∧ x ≤ 10
      · rw [if_pos c1, if_neg (by decide), c_X12_in, bI_r, if_neg (show ¬ (0 ≤ y ∧ y ≤ 999) by omega), if_pos rfl, bI_r]
      · rw [if_neg c1, if_pos rfl, bI_r]
theorem q_fair (d e : Nat) {μ ν : jM} {k : Kt} {w : Lw} {b : List Nat} {r : List Int} {ru : List Nat} (hk : KI μ k) (hw : LI μ 16 w) (hb : BI μ 20 b) (hr : RI μ r) (ht : TaC μ ru) (gk : KR ν k) (gw : LR ν w) (gb : SR ν b) (gr : RR ν r) (gt : TaR ν ru) (hbk : Bok (kn k) b) (x y : Int) : ∃ v μ' ν' r', CL (d + 7) 184 [jR 0, jI x, jI y] μ = rI v μ' ∧ CL (e + 255) 288 [jR 69, jI x, jI y] ν = rI v ν' ∧ fC μ' μ ∧ fR ν' ν ∧ RI μ' r' ∧ RR ν' r' := by
  have hko := hk.1
  by_cases hxy : 0 ≤ x ∧ x ≤ 10 ∧ 0 ≤ y ∧ y ≤ 999
  · obtain ⟨N, rfl⟩ := Int.eq_ofNat_of_zero_le hxy.1
    obtain ⟨P, rfl⟩ := Int.eq_ofNat_of_zero_le hxy.2.2.1
    by_cases hg0 : kg k = 0
    · refine ⟨-2, μ, jup ν 69 20 0, r, ?_, ?_, fC_r μ, fR_0 ν, hr, th0_RR gr⟩
      · rw [e_X11_fair, if_neg (by omega), if_neg (by omega), if_neg (by omega), if_neg (by omega), e_X1_guests, hk.2.2.1, bI_r, if_pos (by omega)]
      · have h6 := (th0_KR gk).2.2.1
        rw [e_X12_fair, e_X12_tellBest, c_X12_in, bI_r, if_pos (show (0 : Int) ≤ (N : Int) ∧ (N : Int) ≤ 10 by omega), if_neg (by decide), c_X12_in, bI_r, if_pos (show (0 : Int) ≤ (P : Int) ∧ (P : Int) ≤ 999 by omega), if_neg (by decide), if_pos rfl, if_pos (by omega), bI_r]
    · obtain ⟨μ', f1, r1⟩ := c_X11_fair d hk hw hb hbk hr ht N P (by omega) (by omega) hg0
      obtain ⟨ν', f2, r2⟩ := c_X12_tellBest e (th0_KR gk) (th0_LR gw) (th0_SR gb) hbk (th0_TaR gt) (th0_RR gr) N P (by omega) (by omega) 1 (Or.inr ⟨rfl, hg0⟩)
      have h2 : ∀ z : Int, CL (e + 254) 286 [jR 69, jI N, jI P, jI ((1 : Nat) : Int)] (jup ν 69 20 0) = rI z ν' → CL (e + 255) 288 [jR 69, jI N, jI P] ν = rI z ν' := fun z hz => by
        have hz : CL (e + 254) 286 [jR 69, jI N, jI P, jI 1] (jup ν 69 20 0) = rI z ν' := hz
        rw [e_X12_fair, hz, bI_r]
      rcases r1 with ⟨y1, y2, y3⟩ | ⟨g, m, row, y1, y2, y3⟩
      · rcases r2 with ⟨z1, z2, z3⟩ | ⟨g', m', row', z1, z2, z3⟩
        · exact ⟨-2, μ', ν', r, y1, h2 _ z1, f1, fR_t (fR_0 ν) f2, y3, z3⟩
        · obtain ⟨⟨s, l, a1, -⟩, -⟩ := z2
          rw [y2 s l] at a1
          cases a1
      · rcases r2 with ⟨z1, z2, z3⟩ | ⟨g', m', row', z1, z2, z3⟩
        · obtain ⟨⟨s, l, a1, -⟩, -⟩ := y2
          rw [z2 s l] at a1
          cases a1
        · have z2' := BestP_cg (v' := fun s => wo (fun g x => joyv k ru g x) (nd s (bset b)) (kg k)) (fun _ _ => rfl) (fun s l _ => rfl) z2
          obtain ⟨u1, u2, u3⟩ := BestP_u y2 z2'
          exact ⟨1, μ', ν', g :: ri row, y1, h2 _ z1, f1, fR_t (fR_0 ν) f2, y3, by rw [u1, u3]; exact z3⟩
  · refine ⟨-1, μ, jup ν 69 20 0, r, ?_, ?_, fC_r μ, fR_0 ν, hr, th0_RR gr⟩
    · rw [e_X11_fair]
      by_cases c1 : x < 0
      · rw [if_pos c1]
      rw [if_neg c1]
      by_cases c2 : (10 : Int) < x
      · rw [if_pos c2]
      rw [if_neg c2]
      by_cases c3 : y < 0
      · rw [if_pos c3]
      rw [if_neg c3, if_pos (by omega)]
    · rw [e_X12_fair, e_X12_tellBest, c_X12_in, bI_r]
      by_cases c1 : 0 ≤ x ∧ x ≤ 10
      · rw [if_pos c1, if_neg (by decide), c_X12_in, bI_r, if_neg (show ¬ (0 ≤ y ∧ y ≤ 999) by omega), if_pos rfl, bI_r]
      · rw [if_neg c1, if_pos rfl, bI_r]
/-! cost -/
theorem GJ_P {k : Kt} (hk : Kok k) (w : Lw) (A : Ap) (s0 l0 N : Nat) {P P' : Int} (h : 990 ≤ P) (h' : 990 ≤ P') : GJ k w A s0 l0 N P = GJ k w A s0 l0 N P' := by
  funext s l
  have := kcs_b2 hk (nd s s0)
  unfold GJ
  rw [decide_eq_true (show kcs k (nd s s0) ≤ P by omega), decide_eq_true (show kcs k (nd s s0) ≤ P' by omega)]
theorem GJ_A {k : Kt} (w : Lw) {A A' : Ap} (h : ∀ i x, x < kn k → A i x = A' i x) (s0 l0 N : Nat) (P : Int) : GJ k w A s0 l0 N P = GJ k w A' s0 l0 N P := by
  unfold GJ
  rw [rr_A w h]
theorem ws_neg (f : Nat → Int) (t : Nat) : ws (fun x => -1 * f x) t = -(ws f t) := by
  have h := ws_add f (fun x => -1 * f x) t
  have h0 : ws (fun x => f x + -1 * f x) t = 0 := by
    unfold ws
    refine sm_0 (fun i _ => ?_)
    show (if t.testBit i = true then f i + -1 * f i else 0) = 0
    split <;> omega
  omega
theorem ws_one (f : Nat → Int) (t : Nat) : ws (fun x => 1 * f x) t = ws f t := ws_cg (fun x _ _ => Int.one_mul _)
theorem vsc_c {k : Kt} (hk : Kok k) (r : List Nat) {t : Nat} (ht : t < 2 ^ kn k) (f : Int) (c : Nat) (h : f = -1 ∧ c = 2 ∨ f = 1 ∧ c = 3) : vsc k r c t = wo (fun _ x => f * (kco k x : Int)) t 1 := by
  have hb := kcs_b2 hk t
  have e := kcs_ws hk.1 ht
  rcases h with ⟨z, y⟩ | ⟨z, y⟩
  · rw [z, y]
    show -(kcs k t) = min 1000000 (ws (fun x => -1 * (kco k x : Int)) t)
    rw [ws_neg, ← e]
    omega
  · rw [z, y]
    show kcs k t = min 1000000 (ws (fun x => 1 * (kco k x : Int)) t)
    rw [ws_one, ← e]
    omega
theorem c_X12_tellCost (d : Nat) {μ : jM} {k : Kt} {w : Lw} {b : List Nat} {ru : List Nat} {r : List Int} (hk : KR μ k) (hw : LR μ w) (hb : SR μ b) (hbk : Bok (kn k) b) (hru : TaR μ ru) (hr : RR μ r) (N : Nat) (hN : N ≤ 10) (c : Nat) (hc : c = 2 ∨ c = 3) (sb : Nat) (hsb : sb < 1024) : ∃ μ', fR μ' μ ∧ ((CL (d + 254) 289 [jR 69, jI N, jI c, jI sb] μ = rI (-2) μ' ∧ (∀ s l, GJ k w (fun _ x => sb.testBit x) (bset b) (bla b) N 1000000 s l = false) ∧ RR μ' r) ∨ ∃ g m row, CL (d + 254) 289 [jR 69, jI N, jI c, jI sb] μ = rI (jabs g) μ' ∧ BestP k w (fun _ x => sb.testBit x) (bset b) (bla b) (GJ k w (fun _ x => sb.testBit x) (bset b) (bla b) N 1000000) (fun s => vsc k ru c (nd s (bset b))) g m row ∧ RR μ' (ri row)) := by
  obtain ⟨μ1, f1, r1⟩ := c_X12_findBest d hk hw hb hbk hru N hN 1000000 c (by omega) sb hsb
  rw [e_X12_tellCost, c_X12_in, bI_r, if_pos (show (0 : Int) ≤ (N : Int) ∧ (N : Int) ≤ 10 by omega), if_neg (by decide)]
  rcases r1 with ⟨e1, z1⟩ | ⟨g, e1, h39, hex, hle, hE, hC⟩
  · refine ⟨μ1, fR_B f1, Or.inl ⟨?_, z1, fB_RR f1 hr⟩⟩
    rw [e1, bI_r, if_pos rfl]
  · have k1 := fB_KR f1 hk
    have w1 := fB_LR f1 hw
    have b1 := fB_SR f1 hb
    let μ3 : jM := jup μ1 69 19 0
    have f31 : ∀ q, q ≠ 69 → q ≠ 81 → μ3 q = μ1 q := fun q x y => jup_ne x
    have g31 : ∀ j : Int, j ≠ 19 → μ3 69 j = μ1 69 j := fun j x => jup_m x
    have k3 : KR μ3 k := KR_cg k1 (fun q _ _ => f31 q (by omega) (by omega)) (g31 1 (by decide)) (g31 6 (by decide))
    have w3 : LR μ3 w := LR_cg w1 (f31 70 (by decide) (by decide)) (g31 9 (by decide)) (g31 10 (by decide)) (g31 11 (by decide))
    have b3 : SR μ3 b := SR_cg b1 (f31 77 (by decide) (by decide)) (g31 13 (by decide))
    obtain ⟨μ4, e4, f4, g4, r4⟩ := c_bestWay (d + 248) k3 w3 b3 hbk hN hsb (v := fun s => vsc k ru c (nd s (bset b))) hex (fun s l hs => by rw [f31 83 (by decide) (by decide)]; exact hE s l hs) (fun s l hs => by rw [f31 84 (by decide) (by decide)]; exact hC s l hs) (RR_0 μ1) (by decide)
    have e39 : μ4 69 39 = g := (g4 39 (by decide)).trans ((g31 39 (by decide)).trans h39)
    refine ⟨μ4, fR_t (fR_B f1) ⟨fun q hq => (f4 q (by omega) (by omega)).trans (f31 q (by omega) (by omega)), fun j hj => (g4 j (by omega)).trans (g31 j (by omega))⟩, Or.inr ⟨g, N, _, ?_, ⟨hex, hle, fun s l hs _ => (GJ_i.mp hs).2.1, rfl⟩, r4⟩⟩
    rw [e1, bI_r, if_neg (by decide), c_X12_servedSet _ b3, bI_r, c_X12_servedLast _ b3, bI_r, e4, bV_r, e39]
/-- cheap and dear at one -/
theorem q_cost (d e : Nat) {μ ν : jM} {k : Kt} {w : Lw} {b : List Nat} {r : List Int} {ru : List Nat} (hk : KI μ k) (hw : LI μ 16 w) (hb : BI μ 20 b) (hr : RI μ r) (gk : KR ν k) (gw : LR ν w) (gb : SR ν b) (gr : RR ν r) (gt : TaR ν ru) (hbk : Bok (kn k) b) (N : Nat) (hN : N ≤ 10) {a : Int} {Q : Nat → Bool} (ha : alw a Q) (sb : Nat) (hsb : sb < 1024) (hQ : ∀ x, x < kn k → sb.testBit x = Q x) (f : Int) (c : Nat) (hf : f = -1 ∧ c = 2 ∨ f = 1 ∧ c = 3) : ∃ v μ' ν' r', CL (d + 6) 188 [jR 0, jI N, jI a, jI f] μ = rI v μ' ∧ CL (e + 254) 289 [jR 69, jI N, jI c, jI sb] ν = rI v ν' ∧ fC μ' μ ∧ fR ν' ν ∧ RI μ' r' ∧ RR ν' r' := by
  have hko := hk.1
  have hS0 := Sok_b hbk
  have hA : ∀ (i x : Nat), x < kn k → (fun (_ : Nat) (x : Nat) => sb.testBit x) i x = (fun (_ : Nat) => Q) i x := fun i x hx => hQ x hx
  have eG : GJ k w (fun _ x => sb.testBit x) (bset b) (bla b) N 1000000 = GJ k w (fun _ => Q) (bset b) (bla b) N 999 := (GJ_P hko w _ _ _ N (by decide) (by decide)).trans (GJ_A w hA _ _ N 999)
  obtain ⟨μ', f1, r1⟩ := c_X11_tellCost d hk hw hb hbk hr ha N f (by omega)
  obtain ⟨ν', f2, r2⟩ := c_X12_tellCost e gk gw gb hbk gt gr N hN c (by omega) sb hsb
  have c1 : fC μ' μ := fC_29 f1
  rcases r1 with ⟨y1, y2, y3⟩ | ⟨g, m, row, y1, y2, y3⟩
  · rcases r2 with ⟨z1, z2, z3⟩ | ⟨g', m', row', z1, z2, z3⟩
    · exact ⟨-2, μ', ν', r, y1, z1, c1, f2, y3, z3⟩
    · obtain ⟨⟨s, l, a1, -⟩, -⟩ := z2
      rw [eG, y2 s l] at a1
      cases a1
  · rcases r2 with ⟨z1, z2, z3⟩ | ⟨g', m', row', z1, z2, z3⟩
    · obtain ⟨⟨s, l, a1, -⟩, -⟩ := y2
      rw [← eG, z2 s l] at a1
      cases a1
    · have z3' := BestP_A (w := w) (A' := fun _ => Q) hA z2
      rw [eG] at z3'
      have z2' := BestP_cg (Gp := GJ k w (fun _ => Q) (bset b) (bla b) N 999) (v := fun s => vsc k ru c (nd s (bset b))) (v' := fun s => wo (fun _ x => f * (kco k x : Int)) (nd s (bset b)) 1) (fun _ _ => rfl) (fun s l hs => (show vsc k ru c (nd s (bset b)) = wo (fun _ x => f * (kco k x : Int)) (nd s (bset b)) 1 from vsc_c hko ru (nd_lt2 (rr_st hko hS0 (GJ_i.mp hs).1).1) f c hf)) z3'
      obtain ⟨u1, u2, u3⟩ := BestP_u y2 z2'
      have hg : w32 (f * g) = jabs g' := by
        obtain ⟨⟨s, l, a1, a2⟩, -⟩ := z2
        have a2 : vsc k ru c (nd s (bset b)) = g' := a2
        have hb := kcs_b2 hko (nd s (bset b))
        have hv : vsc k ru c (nd s (bset b)) = if c = 2 then -(kcs k (nd s (bset b))) else kcs k (nd s (bset b)) := by
          rcases hf with ⟨z, y⟩ | ⟨z, y⟩ <;> rw [y] <;> rfl
        rw [u1, ← a2, hv]
        unfold jabs
        rcases hf with ⟨z, y⟩ | ⟨z, y⟩
        · rw [z, if_pos y]
          by_cases h0 : 0 ≤ -(kcs k (nd s (bset b)))
          · rw [if_pos h0, w_id (by omega) (by omega)]
            omega
          · rw [if_neg h0]
            congr 1
            omega
        · rw [z, if_neg (by omega), if_pos hb.1, Int.one_mul, w_id (by omega) (by omega)]
      exact ⟨w32 (f * g), μ', ν', ri row, y1, by rw [hg]; exact z1, c1, f2, y3, by rw [u3]; exact z3⟩
theorem q_dear (d e : Nat) {μ ν : jM} {k : Kt} {w : Lw} {b : List Nat} {r : List Int} {ru : List Nat} (hk : KI μ k) (hw : LI μ 16 w) (hb : BI μ 20 b) (hr : RI μ r) (gk : KR ν k) (gw : LR ν w) (gb : SR ν b) (gr : RR ν r) (gt : TaR ν ru) (hbk : Bok (kn k) b) (x : Int) : ∃ v μ' ν' r', CL (d + 7) 186 [jR 0, jI x] μ = rI v μ' ∧ CL (e + 255) 291 [jR 69, jI x] ν = rI v ν' ∧ fC μ' μ ∧ fR ν' ν ∧ RI μ' r' ∧ RR ν' r' := by
  rw [e_X11_dear, e_X12_dear, c_X12_all _ (th0_KR gk), bI_r]
  by_cases hx : 0 ≤ x ∧ x ≤ 10
  · obtain ⟨N, rfl⟩ := Int.eq_ofNat_of_zero_le hx.1
    obtain ⟨v, μ', ν', r', e1, e2, c1, c2, r1, r2⟩ := q_cost d e hk hw hb hr (th0_KR gk) (th0_LR gw) (th0_SR gb) (th0_RR gr) (th0_TaR gt) hbk N (by omega) alw_1023 (2 ^ kn k - 1) (X12_sall hk.1) (fun x hx => sall hx) 1 3 (Or.inr ⟨rfl, rfl⟩)
    have e2 : CL (e + 254) 289 [jR 69, jI N, jI 3, jI ((2 ^ kn k - 1 : Nat) : Int)] (jup ν 69 20 0) = rI v ν' := e2
    refine ⟨v, μ', ν', r', ?_, ?_, c1, fR_t (fR_0 ν) c2, r1, r2⟩
    · rw [if_neg (by omega), if_neg (by omega), e1, bI_r]
    · rw [e2, bI_r]
  · refine ⟨-1, μ, jup ν 69 20 0, r, ?_, ?_, fC_r μ, fR_0 ν, hr, th0_RR gr⟩
    · by_cases c1 : x < 0
      · rw [if_pos c1]
      · rw [if_neg c1, if_pos (by omega)]
    · rw [e_X12_tellCost, c_X12_in, bI_r, if_neg hx, if_pos rfl, bI_r]
theorem q_cheap (d e : Nat) {μ ν : jM} {k : Kt} {w : Lw} {b : List Nat} {r : List Int} {ru : List Nat} (hk : KI μ k) (hw : LI μ 16 w) (hb : BI μ 20 b) (hr : RI μ r) (gk : KR ν k) (gw : LR ν w) (gb : SR ν b) (gr : RR ν r) (gt : TaR ν ru) (hbk : Bok (kn k) b) (x : Int) : ∃ v μ' ν' r', CL (d + 7) 185 [jR 0, jI x] μ = rI v μ' ∧ CL (e + 255) 290 [jR 69, jI x] ν = rI v ν' ∧ fC μ' μ ∧ fR ν' ν ∧ RI μ' r' ∧ RR ν' r' := by
  have h10 := hk.1.1
  have h6 := hk.1.2.1
  have gk0 := th0_KR gk
  let Q : Nat → Bool := fun y => kfed k (kg k) y
  let sb : Nat := bm Q (kn k)
  have hsb : sb < 2 ^ 10 := bm_lt' _ h10
  -- who is fed, by the reference
  have run : EV (e + 254) T_X12_cheap 1 [some (jR 69), some (jI x), some (jI 0), some (jI 0), none, none] [] (jup ν 69 20 0) = EV (e + 254) T_X12_cheap 1 [some (jR 69), some (jI x), some (jI sb), some (jI (kn k)), none, none] [] (jup ν 69 20 0) := lp_0 (fun y : Nat => EV (e + 254) T_X12_cheap 1 [some (jR 69), some (jI x), some (jI (bm Q y : Nat)), some (jI y), none, none] [] (jup ν 69 20 0)) (kn k) (fun y hy => by
    have hby : bm Q y < 2 ^ 10 := bm_lt' _ (by omega)
    have h2y := p2_le (show y ≤ 10 by omega)
    have inner := lp_0 (fun g : Nat => EV (e + 254) T_X12_cheap 2 [some (jR 69), some (jI x), some (jI (bm Q y : Nat)), some (jI y), some (jI (if kfed k g y then 0 else 1)), some (jI g)] [] (jup ν 69 20 0)) (kg k) (fun g hg => by
      have hs : kfed k (g + 1) y = (kfed k g y && !khu k g y) := rfl
      show EV (e + 254) T_X12_cheap 2 _ [] _ = EV (e + 254) T_X12_cheap 2 _ [] _
      rw [e_X12_cheap_2, gk0.2.2.1, if_pos (by omega), w_s g (by omega), hs]
      cases kfed k g y with
      | false => rfl
      | true =>
        rw [if_pos (show (if true = true then (0 : Int) else 1) = 0 from rfl), c_X12_isHungry _ gk0 g y hg hy, bI_r]
        cases khu k g y <;> rfl)
    have eb : bm Q (y + 1) = bm Q y ||| (if Q y then 2 ^ y else 0) := rfl
    have or0 := or_nn (bm Q y) 0 (by omega) (by omega)
    show EV (e + 254) T_X12_cheap 1 [some (jR 69), some (jI x), some (jI (bm Q y : Nat)), some (jI y), none, none] [] _ = EV (e + 254) T_X12_cheap 1 [some (jR 69), some (jI x), some (jI (bm Q (y + 1) : Nat)), some (jI ((y + 1 : Nat) : Int)), none, none] [] _
    rw [e_X12_cheap_1, gk0.2.1, if_pos (by omega)]
    refine Eq.trans inner ?_
    show EV (e + 254) T_X12_cheap 2 [some (jR 69), some (jI x), some (jI (bm Q y : Nat)), some (jI y), some (jI (if kfed k (kg k) y then 0 else 1)), some (jI (kg k))] [] _ = _
    rw [e_X12_cheap_2, gk0.2.2.1, if_neg (by omega), w_s y (by omega), eb]
    cases hq : Q y with
    | true =>
      rw [show kfed k (kg k) y = true from hq, if_pos (show (if true = true then (0 : Int) else 1) = 0 from rfl), shl_1 y (by omega), or_nn _ _ (by omega) (by omega)]
      rfl
    | false =>
      rw [show kfed k (kg k) y = false from hq, if_neg (show ¬ (if false = true then (0 : Int) else 1) = 0 by decide), show jor ((bm Q y : Nat) : Int) 0 = ((bm Q y ||| 0 : Nat) : Int) from or0]
      rfl)
  have ref : CL (e + 255) 290 [jR 69, jI x] ν = bI (CL (e + 254) 289 [jR 69, jI x, jI 2, jI sb] (jup ν 69 20 0)) fun x1 μ1 => rI x1 μ1 := by
    rw [e_X12_cheap, run, e_X12_cheap_1, gk0.2.1, if_neg (by omega)]
  rw [ref, e_X11_cheap]
  by_cases hx : 0 ≤ x ∧ x ≤ 10
  · obtain ⟨N, rfl⟩ := Int.eq_ofNat_of_zero_le hx.1
    obtain ⟨v, μ', ν', r', e1, e2, c1, c2, r1, r2⟩ := q_cost d e (a := (sb : Int)) (Q := fun y => sb.testBit y) hk hw hb hr gk0 (th0_LR gw) (th0_SR gb) (th0_RR gr) (th0_TaR gt) hbk N (by omega) (Or.inl ⟨sb, by omega, rfl, fun _ _ => rfl⟩) sb (by omega) (fun _ _ => rfl) (-1) 2 (Or.inl ⟨rfl, rfl⟩)
    have e2 : CL (e + 254) 289 [jR 69, jI N, jI 2, jI sb] (jup ν 69 20 0) = rI v ν' := e2
    refine ⟨v, μ', ν', r', ?_, ?_, c1, fR_t (fR_0 ν) c2, r1, r2⟩
    · rw [if_neg (by omega), if_neg (by omega), c_X1_barredToNobody _ hk, bI_r, show (bm (fun x => kfed k (kg k) x) (kn k) : Nat) = sb from rfl, e1, bI_r]
    · rw [e2, bI_r]
  · refine ⟨-1, μ, jup ν 69 20 0, r, ?_, ?_, fC_r μ, fR_0 ν, hr, th0_RR gr⟩
    · by_cases c1 : x < 0
      · rw [if_pos c1]
      · rw [if_neg c1, if_pos (by omega)]
    · rw [e_X12_tellCost, c_X12_in, bI_r, if_neg hx, if_pos rfl, bI_r]
