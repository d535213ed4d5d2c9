/-! ## keep and again: both sides -/
/-- what is kept: is it; the law; the banquet; how many DISHES there were; how often DISHES had come -/
abbrev Kp : Type := Nat → Bool × Lw × List Nat × Nat × Nat
def kpk (K : Kp) (i : Nat) : Bool := (K i).1
def kpw (K : Kp) (i : Nat) : Lw := (K i).2.1
def kpb (K : Kp) (i : Nat) : List Nat := (K i).2.2.1
def kpn (K : Kp) (i : Nat) : Nat := (K i).2.2.2.1
def kpc (K : Kp) (i : Nat) : Nat := (K i).2.2.2.2
def KC (μ : jM) (K : Kp) : Prop := ∀ i, i < 2 → (kpk K i = false → μ 28 (i : Int) = -1) ∧ (kpk K i = true → LI μ (61 + 4 * i) (kpw K i) ∧ BI μ (63 + 4 * i) (kpb K i) ∧ μ 28 (i : Int) = (kpn K i : Int))
def KS (ν : jM) (i : Nat) (w : Lw) (b : List Nat) : Prop := Lok w ∧ Bok 10 b ∧ (∀ j : Nat, j < b.length → ν 96 ((22 * i + j : Nat) : Int) = (b.getD j 0 : Int)) ∧ ν 96 ((22 * i + 10 : Nat) : Int) = (b.length : Int) ∧ (∀ s : Nat, s < 8 → ν 96 ((22 * i + 11 + s : Nat) : Int) = (lst w s : Int)) ∧ ν 96 ((22 * i + 19 : Nat) : Int) = (lsh w : Int) ∧ ν 96 ((22 * i + 20 : Nat) : Int) = (lti w : Int) ∧ ν 96 ((22 * i + 21 : Nat) : Int) = (lhe w : Int)
def KD2 (ν : jM) (K : Kp) : Prop := ∀ i, i < 2 → (kpk K i = false → ν 97 (i : Int) = 0) ∧ (kpk K i = true → ν 97 (i : Int) = 1 ∧ ν 98 (i : Int) = (kpc K i : Int) ∧ KS ν i (kpw K i) (kpb K i))
/-- the two ways of telling that DISHES came say the same -/
def Kok2 (k : Kt) (c : Nat) (K : Kp) : Prop := c ≤ kn k ∧ ∀ i, i < 2 → kpk K i = true → kpn K i ≤ kn k ∧ kpc K i ≤ c ∧ (kpn K i = kn k ↔ kpc K i = c) ∧ Bok (kpn K i) (kpb K i)
theorem RF_26 : ∀ i : Nat, i < 2 → RF 26 (i : Int) = 61 + 4 * i ∧ RF 27 (i : Int) = 63 + 4 * i ∧ KD (61 + 4 * i) = 2 ∧ KD (63 + 4 * i) = 0 := by decide
theorem isL_k {i : Nat} (hi : i < 2) : isL (61 + 4 * i) := by
  unfold isL
  omega
theorem isB_k {i : Nat} (hi : i < 2) : isB (63 + 4 * i) := by
  unfold isB
  omega
def kpA (K : Kp) (x : Int) (w : Lw) (b : List Nat) (n c : Nat) : Kp := fun j => if 0 ≤ x ∧ x < 2 ∧ j = x.toNat then (true, w, b, n, c) else K j
theorem kpA_o {K : Kp} {x : Int} (h : ¬ (0 ≤ x ∧ x < 2)) (w : Lw) (b : List Nat) (n c : Nat) : kpA K x w b n c = K := by
  funext j
  exact if_neg (fun z => h ⟨z.1, z.2.1⟩)
theorem kpA_i {K : Kp} {i : Nat} (hi : i < 2) (w : Lw) (b : List Nat) (n c : Nat) : kpA K (i : Int) w b n c i = (true, w, b, n, c) := if_pos ⟨by omega, by omega, by omega⟩
theorem kpA_n {K : Kp} {i j : Nat} (h : j ≠ i) (w : Lw) (b : List Nat) (n c : Nat) : kpA K (i : Int) w b n c j = K j := if_neg (fun z => h (by omega))
theorem c_X11_keep (d : Nat) {μ : jM} {k : Kt} {w : Lw} {b : List Nat} {K : Kp} (c : Nat) (hk : KI μ k) (hw : LI μ 16 w) (hb : BI μ 20 b) (hK : KC μ K) (x : Int) : ∃ μ', CL (d + 2) 200 [jR 0, jI x] μ = rI (if 0 ≤ x ∧ x < 2 then 1 else 0) μ' ∧ (∀ q, q ≠ 28 → q < 61 ∨ 68 < q → μ' q = μ q) ∧ KC μ' (kpA K x w b (kn k) c) := by
  rw [e_X11_keep]
  by_cases hx : 0 ≤ x ∧ x < 2
  · obtain ⟨i, rfl⟩ := Int.eq_ofNat_of_zero_le hx.1
    have hi : i < 2 := by omega
    obtain ⟨r1, r2, r3, r4⟩ := RF_26 i hi
    obtain ⟨μ1, e1, f1, l1⟩ := c_X2_copy (w2 := w) d hw (isL_k hi) (by omega)
    have hb1 : BI μ1 20 b := BI_cg hb (f1 20 (by omega) (by omega)) (f1 21 (by omega) (by omega))
    obtain ⟨μ2, e2, f2, b2⟩ := c_X0_copy d hb1 (isB_k hi) (by omega)
    have hk2 : KI μ2 k := KI_cg hk (fun q _ _ => (f2 q (by omega) (by omega)).trans (f1 q (by omega) (by omega)))
    have l2 : LI μ2 (61 + 4 * i) w := LI_cg l1 (f2 _ (by omega) (by omega)) (f2 _ (by omega) (by omega))
    rw [if_pos hx, if_neg (by omega), if_pos (by omega), gd_t (by omega), r1, r2, cd_t r3, e1, bV_r, gd_t (by omega), cd_t r4, e2, bV_r, e_X1_dishes, hk2.2.1, bI_r, gd_t (by omega), gd_t (by omega)]
    refine ⟨_, rfl, fun q h1 h2 => (jup_ne h1).trans ((f2 q (by omega) (by omega)).trans (f1 q (by omega) (by omega))), fun j hj => ?_⟩
    by_cases hji : j = i
    · rw [hji]
      unfold kpk kpw kpb kpn
      rw [kpA_i hi]
      refine ⟨fun z => (by cases z), fun _ => ⟨LI_cg l2 (jup_ne (by omega)) (jup_ne (by omega)), BI_cg b2 (jup_ne (by omega)) (jup_ne (by omega)), jup_r _ _ _ _⟩⟩
    · have := hK j hj
      unfold kpk kpw kpb kpn at this ⊢
      rw [kpA_n hji]
      have e28 : jup μ2 28 (i : Int) (kn k : Int) 28 (j : Int) = μ 28 (j : Int) := by
        rw [jup_m (by omega), f2 28 (by omega) (by omega), f1 28 (by omega) (by omega)]
      have ee : ∀ q, q ≠ 28 → q ≠ 61 + 4 * i → q ≠ 61 + 4 * i + 1 → q ≠ 63 + 4 * i → q ≠ 63 + 4 * i + 1 → jup μ2 28 (i : Int) (kn k : Int) q = μ q := fun q a b c d e => (jup_ne a).trans ((f2 q d e).trans (f1 q b c))
      rw [e28]
      refine ⟨this.1, fun z => ?_⟩
      obtain ⟨a1, a2, a3⟩ := this.2 z
      exact ⟨LI_cg a1 (ee _ (by omega) (by omega) (by omega) (by omega) (by omega)) (ee _ (by omega) (by omega) (by omega) (by omega) (by omega)), BI_cg a2 (ee _ (by omega) (by omega) (by omega) (by omega) (by omega)) (ee _ (by omega) (by omega) (by omega) (by omega) (by omega)), a3⟩
  · rw [if_neg hx, kpA_o hx]
    refine ⟨μ, ?_, fun _ _ _ => rfl, hK⟩
    by_cases h1 : x < 0
    · rw [if_pos h1, gd_t (by omega)]
    · rw [if_neg h1, if_neg (by omega), gd_t (by omega)]
def agn (k : Kt) (K : Kp) (x : Int) : Bool := decide (0 ≤ x ∧ x < 2) && (kpk K x.toNat && decide (kpn K x.toNat = kn k))
theorem c_X11_again (d : Nat) {μ : jM} {k : Kt} {w : Lw} {b : List Nat} {K : Kp} (hk : KI μ k) (hw : LI μ 16 w) (hb : BI μ 20 b) (hK : KC μ K) (x : Int) : ∃ μ', CL (d + 2) 201 [jR 0, jI x] μ = rI (if agn k K x then 1 else 0) μ' ∧ (∀ q, q < 16 ∨ 21 < q ∨ q = 18 ∨ q = 19 → μ' q = μ q) ∧ LI μ' 16 (if agn k K x then kpw K x.toNat else w) ∧ BI μ' 20 (if agn k K x then kpb K x.toNat else b) := by
  rw [e_X11_again]
  unfold agn
  by_cases hx : 0 ≤ x ∧ x < 2
  · obtain ⟨i, rfl⟩ := Int.eq_ofNat_of_zero_le hx.1
    have hi : i < 2 := by omega
    obtain ⟨r1, r2, r3, r4⟩ := RF_26 i hi
    obtain ⟨k0, k1⟩ := hK i hi
    rw [decide_eq_true hx, Bool.true_and, if_neg (by omega), if_pos (by omega), gd_t (by omega), e_X1_dishes, hk.2.1, bI_r, Int.toNat_natCast]
    cases hkp : kpk K i with
    | false =>
      rw [k0 hkp, if_neg (show ¬ (-1 : Int) = (kn k : Int) by omega), gd_t (by omega), Bool.false_and]
      exact ⟨μ, rfl, fun _ _ => rfl, hw, hb⟩
    | true =>
      obtain ⟨a1, a2, a3⟩ := k1 hkp
      rw [a3, Bool.true_and]
      by_cases hn : kpn K i = kn k
      · obtain ⟨μ1, e1, f1, l1⟩ := c_X2_copy (w2 := w) d a1 (show isL 16 from Or.inl rfl) (by omega)
        have hb1 : BI μ1 (63 + 4 * i) (kpb K i) := BI_cg a2 (f1 _ (by omega) (by omega)) (f1 _ (by omega) (by omega))
        obtain ⟨μ2, e2, f2, b2⟩ := c_X0_copy d hb1 (show isB 20 from Or.inl rfl) (by omega)
        rw [if_pos (show (kpn K i : Int) = (kn k : Int) by omega), gd_t (by omega), r1, r2, e1, bV_r, gd_t (by omega), e2, bV_r, gd_t (by omega), decide_eq_true hn]
        exact ⟨μ2, rfl, fun q hq => (f2 q (by omega) (by omega)).trans (f1 q (by omega) (by omega)), LI_cg l1 (f2 16 (by decide) (by decide)) (f2 17 (by decide) (by decide)), b2⟩
      · rw [if_neg (show ¬ (kpn K i : Int) = (kn k : Int) by omega), gd_t (by omega), decide_eq_false hn]
        exact ⟨μ, rfl, fun _ _ => rfl, hw, hb⟩
  · rw [decide_eq_false hx, Bool.false_and]
    refine ⟨μ, ?_, fun _ _ => rfl, hw, hb⟩
    by_cases h1 : x < 0
    · rw [if_pos h1, gd_t (by omega)]
      rfl
    · rw [if_neg h1, if_neg (by omega), gd_t (by omega)]
      rfl
/-- a row of places written one after the other -/
def wr (m0 : jM) (p : Nat) (o : Nat) (f : Nat → Int) (t : Nat) (m : jM) : Prop := (∀ q, q ≠ p → m q = m0 q) ∧ ∀ z : Int, m p z = if (o : Int) ≤ z ∧ z < (o : Int) + t then f (z - o).toNat else m0 p z
theorem wr_0 (m0 : jM) (p o : Nat) (f : Nat → Int) : wr m0 p o f 0 m0 := ⟨fun _ _ => rfl, fun z => (if_neg (by omega)).symm⟩
theorem wr_s {m0 m : jM} {p o t : Nat} {f : Nat → Int} (h : wr m0 p o f t m) {v : Int} (hv : v = f t) : wr m0 p o f (t + 1) (jup m p ((o + t : Nat) : Int) v) := ⟨fun q hq => (jup_ne hq).trans (h.1 q hq), fun z => by
  by_cases hz : z = ((o + t : Nat) : Int)
  · rw [hz, jup_r, if_pos (by omega), hv, show (((o + t : Nat) : Int) - (o : Int)).toNat = t by omega]
  · rw [jup_m hz, h.2 z]
    by_cases h1 : (o : Int) ≤ z ∧ z < (o : Int) + t
    · rw [if_pos h1, if_pos (by omega)]
    · rw [if_neg h1, if_neg (by omega)]⟩
theorem wr_i {m0 m : jM} {p o t : Nat} {f : Nat → Int} (h : wr m0 p o f t m) {j : Nat} (hj : j < t) : m p ((o + j : Nat) : Int) = f j := by
  rw [h.2, if_pos (by omega), show (((o + j : Nat) : Int) - (o : Int)).toNat = j by omega]
theorem wr_o {m0 m : jM} {p o t : Nat} {f : Nat → Int} (h : wr m0 p o f t m) {z : Int} (hz : z < o ∨ o + t ≤ z) : m p z = m0 p z := by
  rw [h.2, if_neg (by omega)]
theorem c_X12_keep (d : Nat) {μ : jM} {w : Lw} {b : List Nat} {K : Kp} {c : Nat} (n : Nat) (hw : LR μ w) (hb : SR μ b) (hc : μ 69 49 = (c : Int)) (hK : KD2 μ K) (x : Int) : ∃ μ', CL (d + 2) 311 [jR 69, jI x] μ = rI (if 0 ≤ x ∧ x < 2 then 1 else 0) μ' ∧ ((∀ q, q ≠ 69 → q ≠ 96 → q ≠ 97 → q ≠ 98 → μ' q = μ q) ∧ ∀ j : Int, j ≠ 20 → μ' 69 j = μ 69 j) ∧ KD2 μ' (kpA K x w b n c) := by
  have hl := Bok_len hb.1
  rw [e_X12_keep, c_X12_in, bI_r]
  by_cases hx : 0 ≤ x ∧ x < 2
  · obtain ⟨i, rfl⟩ := Int.eq_ofNat_of_zero_le hx.1
    have hi : i < 2 := by omega
    let m0 : jM := jup (jup (jup μ 69 20 0) 97 (i : Int) 1) 98 (i : Int) (jup (jup μ 69 20 0) 97 (i : Int) 1 69 49)
    have z0 : ∀ q, q ≠ 69 → q ≠ 97 → q ≠ 98 → m0 q = μ q := fun q a b c => (jup_ne c).trans ((jup_ne b).trans (jup_ne a))
    have z1 : ∀ j : Int, j ≠ 20 → m0 69 j = μ 69 j := fun j hj => by
      show jup (jup (jup μ 69 20 0) 97 (i : Int) 1) 98 (i : Int) _ 69 j = _
      rw [jup_ne (by decide), jup_ne (by decide), jup_m hj]
    obtain ⟨m1, e1, w1⟩ := lp_i (fun (j : Nat) (m : jM) => EV (d + 1) T_X12_keep 1 [some (jR 69), none, some (jI (22 * i : Nat)), some (jI j)] [] m) (fun j m => wr m0 96 (22 * i) (fun j => μ 77 (j : Int)) j m) 10 (fun j m hj h => by
      refine ⟨_, ?_, wr_s h rfl⟩
      show EV (d + 1) T_X12_keep 1 [some (jR 69), none, some (jI (22 * i : Nat)), some (jI j)] [] m = _
      rw [e_X12_keep_1, if_pos (by omega), gd_t (by omega), w_id (by omega) (by omega), gd_t (by omega), w_s j (by omega), h.1 77 (by decide), z0 77 (by decide) (by decide) (by decide)]
      congr 1) m0 (wr_0 _ _ _ _)
    have w1 : wr m0 96 (22 * i) (fun j => μ 77 (j : Int)) 10 m1 := w1
    let m2 : jM := jup m1 96 ((22 * i + 10 : Nat) : Int) (b.length : Nat)
    obtain ⟨m3, e3, w3⟩ := lp_i (fun (j : Nat) (m : jM) => EV (d + 1) T_X12_keep 2 [some (jR 69), none, some (jI (22 * i : Nat)), some (jI j)] [] m) (fun j m => wr m2 96 (22 * i + 11) (fun j => μ 70 (j : Int)) j m) 8 (fun j m hj h => by
      refine ⟨_, ?_, wr_s h rfl⟩
      show EV (d + 1) T_X12_keep 2 [some (jR 69), none, some (jI (22 * i : Nat)), some (jI j)] [] m = _
      rw [e_X12_keep_2, if_pos (by omega), gd_t (by omega), w_id (x := ((22 * i : Nat) : Int) + 10) (by omega) (by omega), w_id (x := ((22 * i : Nat) : Int) + 10 + 1) (by omega) (by omega), w_id (x := ((22 * i : Nat) : Int) + 10 + 1 + (j : Int)) (by omega) (by omega), gd_t (by omega), w_s j (by omega), h.1 70 (by decide), show m2 70 = m1 70 from jup_ne (by decide), w1.1 70 (by decide), z0 70 (by decide) (by decide) (by decide), show ((22 * i : Nat) : Int) + 10 + 1 + (j : Int) = ((22 * i + 11 + j : Nat) : Int) by omega]) m2 (wr_0 _ _ _ _)
    have w3 : wr m2 96 (22 * i + 11) (fun j => μ 70 (j : Int)) 8 m3 := w3
    have q3 : ∀ q, q ≠ 96 → m3 q = m0 q := fun q hq => (w3.1 q hq).trans ((jup_ne hq).trans (w1.1 q hq))
    let m4 : jM := jup (jup (jup m3 96 ((22 * i + 19 : Nat) : Int) (lsh w : Nat)) 96 ((22 * i + 20 : Nat) : Int) (lti w : Nat)) 96 ((22 * i + 21 : Nat) : Int) (lhe w : Nat)
    have q4 : ∀ q, q ≠ 96 → m4 q = m0 q := fun q hq => (jup_ne hq).trans ((jup_ne hq).trans ((jup_ne hq).trans (q3 q hq)))
    have v9 : m3 69 9 = (lsh w : Int) := by rw [q3 69 (by decide), z1 9 (by decide)]; exact hw.2.1
    have v10 : m3 69 10 = (lti w : Int) := by rw [q3 69 (by decide), z1 10 (by decide)]; exact hw.2.2.1
    have v11 : m3 69 11 = (lhe w : Int) := by rw [q3 69 (by decide), z1 11 (by decide)]; exact hw.2.2.2.1
    have o4 : ∀ z : Int, z < 22 * i ∨ 22 * i + 22 ≤ z → m4 96 z = μ 96 z := fun z hz => by
      show jup (jup (jup m3 96 _ _) 96 _ _) 96 _ _ 96 z = _
      rw [jup_m (by omega), jup_m (by omega), jup_m (by omega), wr_o w3 (by omega)]
      show jup m1 96 _ _ 96 z = _
      rw [jup_m (by omega), wr_o w1 (by omega), z0 96 (by decide) (by decide) (by decide)]
    refine ⟨m4, ?_, ⟨fun q a b c e => (q4 q b).trans (z0 q a c e), fun j hj => by rw [q4 69 (by decide)]; exact z1 j hj⟩, fun j hj => ?_⟩
    · rw [if_pos (show 0 ≤ (i : Int) ∧ (i : Int) ≤ 1 by omega), if_neg (by decide), gd_t (by omega), gd_t (by omega), gd_t (by omega), w_id (by omega) (by omega), if_pos hx]
      refine Eq.trans e1 ?_
      show EV (d + 1) T_X12_keep 1 [some (jR 69), none, some (jI (22 * i : Nat)), some (jI (10 : Nat))] [] m1 = _
      have e13 : m1 69 13 = (b.length : Int) := by
        rw [w1.1 69 (by decide), z1 13 (by decide)]
        exact hb.2.1
      rw [e_X12_keep_1, if_neg (by decide), w_id (by omega) (by omega), gd_t (by omega), e13]
      refine Eq.trans e3 ?_
      show EV (d + 1) T_X12_keep 2 [some (jR 69), none, some (jI (22 * i : Nat)), some (jI (8 : Nat))] [] m3 = _
      have n69 : ∀ (u : jM) (z v : Int) (j : Int), jup u 96 z v 69 j = u 69 j := fun u z v j => by rw [jup_ne (by decide)]
      rw [e_X12_keep_2, if_neg (by decide), n69, n69, n69, v9, v10, v11, w_id (x := ((22 * i : Nat) : Int) + 19) (by omega) (by omega), w_id (x := ((22 * i : Nat) : Int) + 19 + 1) (by omega) (by omega), w_id (x := ((22 * i : Nat) : Int) + 19 + 2) (by omega) (by omega), gd_t (by omega), gd_t (by omega), gd_t (by omega), gd_t (by omega)]
      rfl
    · by_cases hji : j = i
      · rw [hji]
        unfold kpk kpw kpb kpc
        rw [kpA_i hi]
        refine ⟨fun z => (by cases z), fun _ => ⟨?_, ?_, hw.1, hb.1, fun y hy => ?_, ?_, fun s hs => ?_, ?_, ?_, ?_⟩⟩
        · rw [q4 97 (by decide)]
          show jup (jup (jup μ 69 20 0) 97 (i : Int) 1) 98 (i : Int) _ 97 (i : Int) = 1
          rw [jup_ne (by decide), jup_r]
        · rw [q4 98 (by decide)]
          show jup (jup (jup μ 69 20 0) 97 (i : Int) 1) 98 (i : Int) _ 98 (i : Int) = (c : Int)
          rw [jup_r, jup_ne (by decide), jup_m (by decide), hc]
        · have hy : y < b.length := hy
          show jup (jup (jup m3 96 _ _) 96 _ _) 96 _ _ 96 ((22 * i + y : Nat) : Int) = _
          rw [jup_m (by omega), jup_m (by omega), jup_m (by omega), wr_o w3 (by omega)]
          show jup m1 96 _ _ 96 ((22 * i + y : Nat) : Int) = _
          rw [jup_m (by omega), wr_i w1 (by omega)]
          exact hb.2.2 y hy
        · show jup (jup (jup m3 96 _ _) 96 _ _) 96 _ _ 96 ((22 * i + 10 : Nat) : Int) = _
          rw [jup_m (by omega), jup_m (by omega), jup_m (by omega), wr_o w3 (by omega)]
          exact jup_r _ _ _ _
        · show jup (jup (jup m3 96 _ _) 96 _ _) 96 _ _ 96 ((22 * i + 11 + s : Nat) : Int) = _
          rw [jup_m (by omega), jup_m (by omega), jup_m (by omega), wr_i w3 hs]
          exact hw.2.2.2.2 s hs
        · show jup (jup (jup m3 96 _ _) 96 _ _) 96 _ _ 96 ((22 * i + 19 : Nat) : Int) = _
          rw [jup_m (by omega), jup_m (by omega), jup_r]
        · show jup (jup (jup m3 96 _ _) 96 _ _) 96 _ _ 96 ((22 * i + 20 : Nat) : Int) = _
          rw [jup_m (by omega), jup_r]
        · exact jup_r _ _ _ _
      · have := hK j hj
        unfold kpk kpw kpb kpc at this ⊢
        rw [kpA_n hji]
        have e97 : m4 97 (j : Int) = μ 97 (j : Int) := by
          rw [q4 97 (by decide)]
          show jup (jup (jup μ 69 20 0) 97 (i : Int) 1) 98 (i : Int) _ 97 (j : Int) = _
          rw [jup_ne (by decide), jup_m (by omega), jup_ne (by decide)]
        have e98 : m4 98 (j : Int) = μ 98 (j : Int) := by
          rw [q4 98 (by decide)]
          show jup (jup (jup μ 69 20 0) 97 (i : Int) 1) 98 (i : Int) _ 98 (j : Int) = _
          rw [jup_m (by omega), jup_ne (by decide), jup_ne (by decide)]
        rw [e97, e98]
        refine ⟨this.1, fun z => ?_⟩
        obtain ⟨a1, a2, a3, a4, a5, a6, a7, a8, a9, a10⟩ := this.2 z
        have hbl := Bok_len a4
        exact ⟨a1, a2, a3, a4, fun y hy => (o4 _ (by omega)).trans (a5 y hy), (o4 _ (by omega)).trans a6, fun s hs => (o4 _ (by omega)).trans (a7 s hs), (o4 _ (by omega)).trans a8, (o4 _ (by omega)).trans a9, (o4 _ (by omega)).trans a10⟩
  · rw [if_neg (show ¬ (0 ≤ x ∧ x ≤ 1) by omega), if_pos rfl, if_neg hx, kpA_o hx, gd_t (by omega)]
    refine ⟨_, rfl, ⟨fun q a _ _ _ => jup_ne a, fun j hj => jup_m hj⟩, fun j hj => ?_⟩
    have := hK j hj
    rw [jup_ne (by decide), jup_ne (by decide)]
    refine ⟨this.1, fun z => ?_⟩
    obtain ⟨a1, a2, a3⟩ := this.2 z
    refine ⟨a1, a2, ?_⟩
    unfold KS at a3 ⊢
    rw [jup_ne (by decide)]
    exact a3
theorem agn_c {k : Kt} {c : Nat} {K : Kp} (h : Kok2 k c K) (x : Int) : agn k K x = (decide (0 ≤ x ∧ x < 2) && (kpk K x.toNat && decide (kpc K x.toNat = c))) := by
  unfold agn
  by_cases hx : 0 ≤ x ∧ x < 2
  · rw [decide_eq_true hx]
    cases hk : kpk K x.toNat with
    | false => rfl
    | true =>
      obtain ⟨-, -, h3, -⟩ := h.2 x.toNat (by omega) hk
      by_cases hz : kpn K x.toNat = kn k
      · rw [decide_eq_true hz, decide_eq_true (h3.mp hz)]
      · rw [decide_eq_false hz, decide_eq_false (fun q => hz (h3.mpr q))]
  · rw [decide_eq_false hx, Bool.false_and, Bool.false_and]
theorem c_X12_again (d : Nat) {μ : jM} {k : Kt} {w : Lw} {b : List Nat} {K : Kp} {c : Nat} (hw : LR μ w) (hb : SR μ b) (hc : μ 69 49 = (c : Int)) (hK : KD2 μ K) (h2 : Kok2 k c K) (x : Int) : ∃ μ', CL (d + 2) 312 [jR 69, jI x] μ = rI (if agn k K x then 1 else 0) μ' ∧ ((∀ q, q ≠ 69 → q ≠ 70 → q ≠ 77 → μ' q = μ q) ∧ ∀ j : Int, j ≠ 9 → j ≠ 10 → j ≠ 11 → j ≠ 13 → j ≠ 20 → μ' 69 j = μ 69 j) ∧ LR μ' (if agn k K x then kpw K x.toNat else w) ∧ SR μ' (if agn k K x then kpb K x.toNat else b) := by
  have hw0 := th0_LR hw
  have hb0 := th0_SR hb
  have hl := Bok_len hb.1
  have f0 : (∀ q, q ≠ 69 → q ≠ 70 → q ≠ 77 → jup μ 69 20 0 q = μ q) ∧ ∀ j : Int, j ≠ 9 → j ≠ 10 → j ≠ 11 → j ≠ 13 → j ≠ 20 → jup μ 69 20 0 69 j = μ 69 j := ⟨fun q a _ _ => jup_ne a, fun j _ _ _ _ h => jup_m h⟩
  rw [agn_c h2, e_X12_again, c_X12_in, bI_r]
  by_cases hx : 0 ≤ x ∧ x < 2
  · obtain ⟨i, rfl⟩ := Int.eq_ofNat_of_zero_le hx.1
    have hi : i < 2 := by omega
    obtain ⟨k0, k1⟩ := hK i hi
    have e97 : jup μ 69 20 0 97 (i : Int) = μ 97 (i : Int) := congrFun (jup_ne (by decide)) _
    have e98 : jup μ 69 20 0 98 (i : Int) = μ 98 (i : Int) := congrFun (jup_ne (by decide)) _
    have e49 : jup μ 69 20 0 69 49 = (c : Int) := (jup_m (by decide)).trans hc
    rw [decide_eq_true hx, Bool.true_and, if_pos (show 0 ≤ (i : Int) ∧ (i : Int) ≤ 1 by omega), if_neg (by decide), gd_t (by omega), Int.toNat_natCast, e97, e98, e49]
    cases hkp : kpk K i with
    | false =>
      rw [k0 hkp, if_pos rfl, gd_t (by omega), Bool.false_and]
      exact ⟨_, rfl, f0, hw0, hb0⟩
    | true =>
      obtain ⟨a1, a2, a3, a4, a5, a6, a7, a8, a9, a10⟩ := k1 hkp
      rw [a1, if_neg (by decide), gd_t (by omega), a2, Bool.true_and]
      by_cases hcc : kpc K i = c
      · have hbl := Bok_len a4
        let m0 : jM := jup μ 69 20 0
        have z96 : ∀ z : Int, m0 96 z = μ 96 z := fun z => congrFun (jup_ne (by decide)) _
        rw [if_pos (show (kpc K i : Int) = (c : Int) by omega), decide_eq_true hcc]
        obtain ⟨m1, e1, w1⟩ := lp_i (fun (j : Nat) (m : jM) => EV (d + 1) T_X12_again 1 [some (jR 69), none, some (jI (22 * i : Nat)), some (jI j)] [] m) (fun j m => wr m0 77 0 (fun j => μ 96 ((22 * i + j : Nat) : Int)) j m) 10 (fun j m hj h => by
          refine ⟨_, ?_, wr_s h rfl⟩
          show EV (d + 1) T_X12_again 1 [some (jR 69), none, some (jI (22 * i : Nat)), some (jI j)] [] m = _
          rw [e_X12_again_1, if_pos (by omega), w_id (by omega) (by omega), gd_t (by omega), gd_t (by omega), w_s j (by omega), h.1 96 (by decide), z96, show ((22 * i : Nat) : Int) + (j : Int) = ((22 * i + j : Nat) : Int) by omega, show ((0 + j : Nat) : Int) = (j : Int) by omega]) m0 (wr_0 _ _ _ _)
        have w1 : wr m0 77 0 (fun j => μ 96 ((22 * i + j : Nat) : Int)) 10 m1 := w1
        let m2 : jM := jup m1 69 13 ((kpb K i).length : Nat)
        have m2n : ∀ q, q ≠ 69 → q ≠ 77 → m2 q = m0 q := fun q a b => (jup_ne a).trans (w1.1 q b)
        obtain ⟨m3, e3, w3⟩ := lp_i (fun (j : Nat) (m : jM) => EV (d + 1) T_X12_again 2 [some (jR 69), none, some (jI (22 * i : Nat)), some (jI j)] [] m) (fun j m => wr m2 70 0 (fun j => μ 96 ((22 * i + 11 + j : Nat) : Int)) j m) 8 (fun j m hj h => by
          refine ⟨_, ?_, wr_s h rfl⟩
          show EV (d + 1) T_X12_again 2 [some (jR 69), none, some (jI (22 * i : Nat)), some (jI j)] [] m = _
          rw [e_X12_again_2, if_pos (by omega), w_id (x := ((22 * i : Nat) : Int) + 10) (by omega) (by omega), w_id (x := ((22 * i : Nat) : Int) + 10 + 1) (by omega) (by omega), w_id (x := ((22 * i : Nat) : Int) + 10 + 1 + (j : Int)) (by omega) (by omega), gd_t (by omega), gd_t (by omega), w_s j (by omega), h.1 96 (by decide), m2n 96 (by decide) (by decide), z96, show ((22 * i : Nat) : Int) + 10 + 1 + (j : Int) = ((22 * i + 11 + j : Nat) : Int) by omega, show ((0 + j : Nat) : Int) = (j : Int) by omega]) m2 (wr_0 _ _ _ _)
        have w3 : wr m2 70 0 (fun j => μ 96 ((22 * i + 11 + j : Nat) : Int)) 8 m3 := w3
        have q3 : ∀ q, q ≠ 69 → q ≠ 70 → q ≠ 77 → m3 q = μ q := fun q a b c => (w3.1 q b).trans ((m2n q a c).trans (jup_ne a))
        let m4 : jM := jup (jup (jup m3 69 9 (lsh (kpw K i) : Nat)) 69 10 (lti (kpw K i) : Nat)) 69 11 (lhe (kpw K i) : Nat)
        have q4 : ∀ q, q ≠ 69 → m4 q = m3 q := fun q hq => (jup_ne hq).trans ((jup_ne hq).trans (jup_ne hq))
        have s3 : m3 69 = m2 69 := w3.1 69 (by decide)
        have s4 : ∀ j : Int, j ≠ 9 → j ≠ 10 → j ≠ 11 → m4 69 j = m2 69 j := fun j a b c => by
          show jup (jup (jup m3 69 9 _) 69 10 _) 69 11 _ 69 j = _
          rw [jup_m c, jup_m b, jup_m a, s3]
        refine ⟨m4, ?_, ⟨fun q a b c => (q4 q a).trans (q3 q a b c), fun j a b c e f => ?_⟩, ⟨a3, ?_, ?_, ?_, fun s hs => ?_⟩, ⟨a4, ?_, fun y hy => ?_⟩⟩
        · rw [if_pos rfl, w_id (by omega) (by omega)]
          refine Eq.trans e1 ?_
          show EV (d + 1) T_X12_again 1 [some (jR 69), none, some (jI (22 * i : Nat)), some (jI (10 : Nat))] [] m1 = _
          have v : m1 96 ((22 * i : Nat) + 10 : Int) = ((kpb K i).length : Int) := by
            rw [w1.1 96 (by decide), z96, show ((22 * i : Nat) + 10 : Int) = ((22 * i + 10 : Nat) : Int) by omega]
            exact a6
          rw [e_X12_again_1, if_neg (by decide), w_id (by omega) (by omega), gd_t (by omega), v]
          refine Eq.trans e3 ?_
          show EV (d + 1) T_X12_again 2 [some (jR 69), none, some (jI (22 * i : Nat)), some (jI (8 : Nat))] [] m3 = _
          have n96 : ∀ (u : jM) (z v : Int) (j : Int), jup u 69 z v 96 j = u 96 j := fun u z v j => by rw [jup_ne (by decide)]
          have v1 : m3 96 ((22 * i : Nat) + 19 : Int) = (lsh (kpw K i) : Int) := by
            rw [q3 96 (by decide) (by decide) (by decide), show ((22 * i : Nat) + 19 : Int) = ((22 * i + 19 : Nat) : Int) by omega]
            exact a8
          have v2 : m3 96 ((22 * i : Nat) + 19 + 1 : Int) = (lti (kpw K i) : Int) := by
            rw [q3 96 (by decide) (by decide) (by decide), show ((22 * i : Nat) + 19 + 1 : Int) = ((22 * i + 20 : Nat) : Int) by omega]
            exact a9
          have v3 : m3 96 ((22 * i : Nat) + 19 + 2 : Int) = (lhe (kpw K i) : Int) := by
            rw [q3 96 (by decide) (by decide) (by decide), show ((22 * i : Nat) + 19 + 2 : Int) = ((22 * i + 21 : Nat) : Int) by omega]
            exact a10
          rw [e_X12_again_2, if_neg (by decide), w_id (x := ((22 * i : Nat) : Int) + 19) (by omega) (by omega), w_id (x := ((22 * i : Nat) : Int) + 19 + 1) (by omega) (by omega), w_id (x := ((22 * i : Nat) : Int) + 19 + 2) (by omega) (by omega), n96, n96, n96, v1, v2, v3, gd_t (by omega), gd_t (by omega), gd_t (by omega), gd_t (by omega)]
        · rw [s4 j a b c]
          show jup m1 69 13 _ 69 j = _
          rw [jup_m e, w1.1 69 (by decide)]
          exact jup_m f
        · show jup (jup (jup m3 69 9 _) 69 10 _) 69 11 _ 69 9 = _
          rw [jup_m (by decide), jup_m (by decide), jup_r]
          rfl
        · show jup (jup (jup m3 69 9 _) 69 10 _) 69 11 _ 69 10 = _
          rw [jup_m (by decide), jup_r]
          rfl
        · exact jup_r _ _ _ _
        · rw [q4 70 (by decide)]
          have := wr_i w3 hs
          rw [Nat.zero_add] at this
          exact this.trans (a7 s hs)
        · rw [s4 13 (by decide) (by decide) (by decide)]
          exact jup_r _ _ _ _
        · have hy : y < (kpb K i).length := hy
          have := wr_i w1 (show y < 10 by omega)
          rw [Nat.zero_add] at this
          rw [q4 77 (by decide), w3.1 77 (by decide), show m2 77 = m1 77 from jup_ne (by decide)]
          exact this.trans (a5 y hy)
      · rw [if_neg (show ¬ (kpc K i : Int) = (c : Int) by omega), gd_t (by omega), decide_eq_false hcc]
        exact ⟨_, rfl, f0, hw0, hb0⟩
  · rw [decide_eq_false hx, Bool.false_and, if_neg (show ¬ (0 ≤ x ∧ x ≤ 1) by omega), if_pos rfl, gd_t (by omega)]
    exact ⟨_, rfl, f0, hw0, hb0⟩
theorem Kok2_keep {k : Kt} {c : Nat} {K : Kp} (h : Kok2 k c K) (x : Int) (w : Lw) {b : List Nat} (hb : Bok (kn k) b) : Kok2 k c (kpA K x w b (kn k) c) := ⟨h.1, fun i hi => by
  by_cases hx : 0 ≤ x ∧ x < 2 ∧ i = x.toNat
  · have e : kpA K x w b (kn k) c i = (true, w, b, kn k, c) := if_pos hx
    unfold kpk kpn kpc kpb
    rw [e]
    exact fun _ => ⟨Nat.le_refl _, Nat.le_refl _, ⟨fun _ => rfl, fun _ => rfl⟩, hb⟩
  · have e : kpA K x w b (kn k) c i = K i := if_neg hx
    have := h.2 i hi
    unfold kpk kpn kpc kpb at this ⊢
    rw [e]
    exact this⟩
