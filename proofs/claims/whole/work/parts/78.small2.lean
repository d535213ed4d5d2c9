/-! ## over, beside, count, row, keep: both sides -/
theorem take_x {b : List Nat} (hbk : Bok 10 b) {i : Nat} (hi : i < b.length) : b.getD i 0 < 10 ∧ (bset (b.take i)).testBit (b.getD i 0) = false ∧ bset (b.take (i + 1)) = bset (b.take i) ||| 2 ^ b.getD i 0 ∧ bset (b.take i) < 2 ^ 10 := by
  have e : b.take (i + 1) = b.take i ++ [b.getD i 0] := by
    rw [List.take_succ, List.getD_eq_getElem?_getD, List.getElem?_eq_getElem hi]
    rfl
  have hm : b.getD i 0 ∈ b := by rw [List.getD_eq_getElem?_getD, List.getElem?_eq_getElem hi]; exact List.getElem_mem hi
  have hnd : (b.take i ++ [b.getD i 0]).Nodup := by
    rw [← e]
    exact hbk.1.sublist (List.take_sublist _ _)
  refine ⟨hbk.2 _ hm, ?_, by rw [e, bset_snoc], bset_lt (fun x hx => hbk.2 x (List.mem_of_mem_take hx))⟩
  rw [bset_tb, decide_eq_false_iff_not]
  intro hx
  rw [List.nodup_append] at hnd
  exact hnd.2.2 _ hx _ (by simp) rfl
theorem take_k {n : Nat} {b : List Nat} (hbk : Bok n b) {i : Nat} (hi : i < b.length) : b.getD i 0 < n := hbk.2 _ (by rw [List.getD_eq_getElem?_getD, List.getElem?_eq_getElem hi]; exact List.getElem_mem hi)
theorem kin_s {k : Kt} (h10 : kn k ≤ 10) {s x : Nat} (hs : s < 2 ^ 10) (hx : x < kn k) (hn : s.testBit x = false) (u : Nat) : kin k (s ||| 2 ^ x) u = kin k s u + (if (kst k x).testBit u then 1 else 0) := by
  have e : khs k u &&& (s ||| 2 ^ x) = (khs k u &&& s) ||| (if (kst k x).testBit u then 2 ^ x else 0) := by
    apply Nat.eq_of_testBit_eq
    intro z
    rw [Nat.testBit_and, Nat.testBit_or, Nat.testBit_or, Nat.testBit_and, Nat.testBit_two_pow]
    by_cases hz : x = z
    · subst hz
      rw [hn]
      show ((bm (fun d => (kst k d).testBit u) (kn k)).testBit x && _) = _
      rw [bm_tb, decide_eq_true hx, decide_eq_true rfl, Bool.true_and]
      cases hb : (kst k x).testBit u with
      | true =>
        rw [if_pos rfl, Nat.testBit_two_pow, decide_eq_true rfl]
        simp
      | false =>
        rw [if_neg (by decide), Nat.zero_testBit]
        simp
    · rw [decide_eq_false hz, Bool.or_false]
      have : (if (kst k x).testBit u then 2 ^ x else 0).testBit z = false := by
        split
        · rw [Nat.testBit_two_pow, decide_eq_false hz]
        · exact Nat.zero_testBit z
      rw [this, Bool.or_false]
  unfold kin
  rw [e]
  cases hb : (kst k x).testBit u with
  | true =>
    rw [if_pos rfl, if_pos rfl]
    exact pc_or1 (n := 10) (by decide) (Nat.lt_of_le_of_lt Nat.and_le_right hs) (by omega) (by rw [Nat.testBit_and, hn, Bool.and_false])
  | false => rw [if_neg (by decide), if_neg (by decide), Nat.or_zero, Nat.add_zero]
theorem kin_0 (k : Kt) (u : Nat) : kin k 0 u = 0 := by
  unfold kin
  rw [Nat.and_zero]
  rfl
def ovW (k : Kt) (w : Lw) (s : Nat) : Lw := (lsh w, lti w, lhe w, fun u => lst w u - kin k s u)
theorem c_X11_over (d : Nat) {μ : jM} {k : Kt} {w : Lw} {b : List Nat} (hk : KI μ k) (hw : LI μ 16 w) (hb : BI μ 20 b) : ∃ μ', CL (d + 3) 158 [jR 0] μ = rI (b.length : Nat) μ' ∧ (∀ q, q ≠ 17 → q ≠ 20 → μ' q = μ q) ∧ LI μ' 16 (ovW k w (bset b)) ∧ BI μ' 20 [] := by
  have hs : bset b < 2 ^ 10 := bset_lt hb.2.1.2
  obtain ⟨μ1, e1, f1, l1⟩ := c_X2_useUp d hw hk (bset b) (by omega)
  obtain ⟨μ2, e2, f2, b2⟩ := c_X0_clear (d + 1) (μ := μ1) (show isB 20 from Or.inl rfl)
  refine ⟨μ2, ?_, fun q h1 h2 => (f2 q h2).trans (f1 q h1), LI_cg l1 (f2 16 (by decide)) (f2 17 (by decide)), b2⟩
  rw [e_X11_over, c_X0_size _ hb, bI_r, c_X0_set _ hb, bI_r, e1, bV_r, e2, bV_r]
theorem c_X12_over (d : Nat) {μ : jM} {k : Kt} {w : Lw} {b : List Nat} (hk : KR μ k) (hw : LR μ w) (hb : SR μ b) (hbk : Bok (kn k) b) : ∃ μ', CL (d + 2) 247 [jR 69] μ = rI (b.length : Nat) μ' ∧ ((∀ q, q ≠ 69 → q ≠ 70 → μ' q = μ q) ∧ ∀ j : Int, j ≠ 13 → j ≠ 20 → μ' 69 j = μ 69 j) ∧ LR μ' (ovW k w (bset b)) ∧ SR μ' [] := by
  have h10 := hk.1.1
  have hl := Bok_len hb.1
  have hk0 := th0_KR hk
  have hw0 := th0_LR hw
  have hb0 := th0_SR hb
  let V : Nat → Nat → Nat := fun i u => lst w u - kin k (bset (b.take i)) u
  let I : Nat → Nat → jM → Prop := fun i u m => (∀ q, q ≠ 70 → m q = jup μ 69 20 0 q) ∧ ∀ y : Nat, y < 8 → m 70 y = ((if y < u then V (i + 1) y else V i y : Nat) : Int)
  obtain ⟨m1, e1, f1, g1⟩ := lp_tab (fun (i : Nat) (m : jM) => EV (d + 1) T_X12_over 1 [some (jR 69), some (jI i), none] [] m) (fun (i u : Nat) (m : jM) => EV (d + 1) T_X12_over 2 [some (jR 69), some (jI i), some (jI u)] [] m) b.length 8 (fun i u m => I i u m) (fun i m hi hI => by
    have hI : I i 0 m := hI
    show EV (d + 1) T_X12_over 1 [some (jR 69), some (jI i), none] [] m = _
    rw [e_X12_over_1, hI.1 69 (by decide), hb0.2.1, if_pos (by omega)]
    rfl) (fun i u m hi hu hI => by
    have hI : I i u m := hI
    obtain ⟨f, g⟩ := hI
    have hx10 := (take_x hb.1 hi).1
    have hx := take_k hbk hi
    obtain ⟨-, n2, n3, n4⟩ := take_x hb.1 hi
    have eV : V (i + 1) u = V i u - (if (kst k (b.getD i 0)).testBit u then 1 else 0) := by
      show lst w u - kin k (bset (b.take (i + 1))) u = lst w u - kin k (bset (b.take i)) u - _
      rw [n3, kin_s h10 n4 hx n2 u]
      omega
    have e77 : m 77 (i : Int) = (b.getD i 0 : Int) := by
      rw [f 77 (by decide)]
      exact hb0.2.2 i hi
    have e71 : m 71 ((b.getD i 0 : Nat) : Int) = (kst k (b.getD i 0) : Int) := by
      rw [f 71 (by decide)]
      exact (hk0.2.2.2.1 _ hx).1
    have h256 := (hk.1.2.2.1 _ hx).2.1
    have e70 := g u hu
    rw [if_neg (by omega)] at e70
    have hV : V i u ≤ 99 := by
      have := hw.1.2.2.2 u hu
      show lst w u - _ ≤ 99
      omega
    show ∃ s', EV (d + 1) T_X12_over 2 [some (jR 69), some (jI i), some (jI u)] [] m = _ ∧ _
    rw [e_X12_over_2, if_pos (by omega), gd_t (by omega), gd_t (by omega), e77, gd_t (by omega), e71, c_X12_has _ _ _ u (by omega) (by omega), bI_r, e70, w_s u (by omega)]
    have go : ∀ v : Int, v = (V (i + 1) u : Nat) → I i (u + 1) (jup m 70 (u : Int) v) := fun v hv => ⟨fun q hq => (jup_ne hq).trans (f q hq), fun y hy => by
      by_cases hyu : y = u
      · rw [hyu, jup_r, if_pos (by omega), hv]
      · rw [jup_m (by omega), g y hy]
        by_cases h1 : y < u
        · rw [if_pos h1, if_pos (by omega)]
        · rw [if_neg h1, if_neg (by omega)]⟩
    cases hb2 : (kst k (b.getD i 0)).testBit u with
    | false =>
      rw [hb2, if_neg (by decide)] at eV
      rw [z_f, gd_t (by omega), w_id (by omega) (by omega)]
      exact ⟨_, rfl, go _ (by omega)⟩
    | true =>
      rw [hb2, if_pos rfl] at eV
      rw [z_t, gd_t (by omega), w_id (by omega) (by omega)]
      exact ⟨_, rfl, go _ (by omega)⟩) (fun i m hi hI => by
    have hI : I i 8 m := hI
    refine ⟨?_, hI.1, fun y hy => ?_⟩
    · show EV (d + 1) T_X12_over 2 [some (jR 69), some (jI i), some (jI (8 : Nat))] [] m = _
      rw [e_X12_over_2, if_neg (by decide), w_s i (by omega)]
    · rw [hI.2 y hy, if_pos hy, if_neg (by omega)]) (jup μ 69 20 0) ⟨fun _ _ => rfl, fun y hy => by
    have e0 : V 0 y = lst w y := by
      show lst w y - kin k 0 y = _
      rw [kin_0]
      rfl
    rw [if_neg (by omega), e0]
    exact hw0.2.2.2.2 y hy⟩
  have f1 : ∀ q, q ≠ 70 → m1 q = jup μ 69 20 0 q := f1
  have el : m1 69 13 = (b.length : Int) := by
    rw [f1 69 (by decide)]
    exact hb0.2.1
  refine ⟨jup m1 69 13 0, ?_, ⟨fun q h1 h2 => (jup_ne h1).trans ((f1 q h2).trans (jup_ne h1)), fun j h1 h2 => ?_⟩, ⟨?_, ?_, ?_, ?_, fun y hy => ?_⟩, ⟨⟨List.nodup_nil, fun x hx => by cases hx⟩, ?_, fun i hi => absurd hi (Nat.not_lt_zero i)⟩⟩
  · rw [e_X12_over]
    refine Eq.trans e1 ?_
    show EV (d + 1) T_X12_over 1 [some (jR 69), some (jI (b.length : Nat)), none] [] m1 = _
    rw [e_X12_over_1, el, if_neg (by omega)]
  · rw [jup_m h1, f1 69 (by decide), jup_m h2]
  · exact ⟨hw.1.1, hw.1.2.1, hw.1.2.2.1, fun s hs => by
      have := hw.1.2.2.2 s hs
      show lst w s - kin k (bset b) s ≤ 99
      omega⟩
  · rw [jup_m (by decide), f1 69 (by decide)]; exact hw0.2.1
  · rw [jup_m (by decide), f1 69 (by decide)]; exact hw0.2.2.1
  · rw [jup_m (by decide), f1 69 (by decide)]; exact hw0.2.2.2.1
  · rw [jup_ne (by decide), g1 y hy, if_neg (by omega)]
    show ((lst w y - kin k (bset (b.take b.length)) y : Nat) : Int) = ((lst w y - kin k (bset b) y : Nat) : Int)
    rw [List.take_length]
  · rw [jup_r]
    rfl
def beA (k : Kt) (w : Lw) (x : Int) : Int := if 0 ≤ x ∧ x < kn k then (ksh k (lsh w) x.toNat : Nat) else -1
theorem c_X11_beside (d : Nat) {μ : jM} {k : Kt} {w : Lw} (hk : KI μ k) (hw : LI μ 16 w) (x : Int) : CL (d + 4) 173 [jR 0, jI x] μ = rI (beA k w x) μ := by
  rw [e_X11_beside, c_X1_hasDish _ hk, bI_r]
  unfold beA
  by_cases hx : 0 ≤ x ∧ x < kn k
  · obtain ⟨n, rfl⟩ := Int.eq_ofNat_of_zero_le hx.1
    have := hw.2.1.1.2
    rw [if_pos hx, if_neg (by decide), if_pos hx, c_X2_share _ hw, bI_r, c_X1_sharing _ hk n (lsh w) (by omega) (by omega), bI_r, Int.toNat_natCast]
  · rw [if_neg hx, if_pos rfl, if_neg hx]
theorem c_X12_besides (d : Nat) {μ : jM} {k : Kt} {w : Lw} (hk : KR μ k) (hw : LR μ w) (x : Nat) (hx : x < kn k) : CL (d + 3) 276 [jR 69, jI x] μ = rI (ksh k (lsh w) x : Nat) μ := by
  have h10 := hk.1.1
  rw [e_X12_besides]
  refine (lp_0 (fun y : Nat => EV (d + 2) T_X12_besides 1 [some (jR 69), some (jI x), some (jI (bm (fun d => decide (lsh w ≤ pc (kst k d &&& kst k x)) && d != x) y : Nat)), some (jI y)] [] μ) (kn k) (fun y hy => ?_)).trans ?_
  · have h2y := p2_le (show y ≤ 10 by omega)
    have hby : bm (fun d => decide (lsh w ≤ pc (kst k d &&& kst k x)) && d != x) y < 2 ^ 10 := bm_lt' _ (by omega)
    have eb : bm (fun d => decide (lsh w ≤ pc (kst k d &&& kst k x)) && d != x) (y + 1) = bm (fun d => decide (lsh w ≤ pc (kst k d &&& kst k x)) && d != x) y ||| (if (decide (lsh w ≤ pc (kst k y &&& kst k x)) && y != x) then 2 ^ y else 0) := rfl
    have or0 := or_nn (bm (fun d => decide (lsh w ≤ pc (kst k d &&& kst k x)) && d != x) y) 0 (by omega) (by omega)
    rw [e_X12_besides_1, hk.2.1, if_pos (by omega), w_s y (by omega), eb]
    by_cases hyx : y = x
    · have e1 : (y != x) = false := by simp [hyx]
      rw [if_pos (by omega), e1, Bool.and_false, if_neg (by decide), ← or0]
      rfl
    · have e1 : (y != x) = true := by simpa using hyx
      rw [if_neg (by omega), c_X12_shared _ hk x y hx hy, bI_r, hw.2.1, e1, Bool.and_true, Nat.and_comm (kst k y)]
      by_cases hz : lsh w ≤ pc (kst k x &&& kst k y)
      · rw [if_neg (by omega), decide_eq_true hz, if_pos rfl, shl_1 y (by omega), or_nn _ _ (by omega) (by omega)]
      · rw [if_pos (by omega), decide_eq_false hz, if_neg (by decide), ← or0]
        rfl
  · rw [e_X12_besides_1, hk.2.1, if_neg (by omega)]
    rfl
theorem c_X12_beside (d : Nat) {μ : jM} {k : Kt} {w : Lw} (hk : KR μ k) (hw : LR μ w) (x : Int) : CL (d + 4) 277 [jR 69, jI x] μ = rI (beA k w x) (jup μ 69 20 0) := by
  have hk0 := th0_KR hk
  rw [e_X12_beside, c_X12_isDish _ hk0, bI_r]
  unfold beA
  by_cases hx : 0 ≤ x ∧ x < kn k
  · obtain ⟨n, rfl⟩ := Int.eq_ofNat_of_zero_le hx.1
    rw [if_pos hx, if_neg (by decide), if_pos hx, c_X12_besides _ hk0 (th0_LR hw) n (by omega), bI_r, Int.toNat_natCast]
  · rw [if_neg hx, if_pos rfl, if_neg hx]
theorem kcs_s {k : Kt} {s x : Nat} (hx : x < kn k) (hn : s.testBit x = false) : kcs k (s ||| 2 ^ x) = kcs k s + kco k x := by
  have e1 : kcs k (s ||| 2 ^ x) = sm (fun d => (if s.testBit d then (kco k d : Int) else 0) + (if d = x then (kco k x : Int) else 0)) (kn k) := sm_cg _ (fun d _ => by
    rw [Nat.testBit_or, Nat.testBit_two_pow]
    by_cases hd : d = x
    · subst hd
      rw [hn, decide_eq_true rfl, if_pos rfl]
      simp
    · rw [decide_eq_false (fun z => hd z.symm), Bool.or_false, if_neg hd, Int.add_zero])
  rw [e1, sm_add]
  congr 1
  have := sm_one (f := fun d => if d = x then (kco k x : Int) else 0) hx (fun j _ hj => if_neg hj)
  rw [this]
  exact if_pos rfl
theorem kcs_0 (k : Kt) : kcs k 0 = 0 := sm_0 (fun i _ => by rw [Nat.zero_testBit]; rfl)
def mlA (M : Mn) : Nat := bm (fun i => laid M (i : Int)) 3
def cnA (k : Kt) (b : List Nat) (M : Mn) (r : List Int) (T : Nat) (x : Int) : Int := if x = 0 then (kn k : Nat) else if x = 1 then (kg k : Nat) else if x = 2 then (b.length : Nat) else if x = 3 then lno (bla b) else if x = 4 then kcs k (bset b) else if x = 5 then (r.length : Nat) else if x = 6 then (T : Nat) else if x = 7 then (mlA M : Nat) else -1
theorem c_X11_menusLaid (d : Nat) {μ : jM} {M : Mn} (hM : MC μ M) : CL (d + 3) 204 [jR 0] μ = rI (mlA M : Nat) μ := by
  rw [e_X11_menusLaid]
  refine (lp_0 (fun i : Nat => EV (d + 2) T_X11_menusLaid 1 [some (jR 0), some (jI (bm (fun i => laid M (i : Int)) i : Nat)), some (jI i)] [] μ) 3 (fun i hi => ?_)).trans ?_
  · have hb : bm (fun i => laid M (i : Int)) i < 2 ^ 3 := bm_lt' _ (by omega)
    have h2i := p2_le (show i ≤ 10 by omega)
    have eb : bm (fun i => laid M (i : Int)) (i + 1) = bm (fun i => laid M (i : Int)) i ||| (if laid M (i : Int) then 2 ^ i else 0) := rfl
    have or0 := or_nn (bm (fun i => laid M (i : Int)) i) 0 (by omega) (by omega)
    rw [e_X11_menusLaid_1, if_pos (by omega), c_X11_isLaid _ hM, bI_r, w_s i (by omega), eb]
    cases laid M (i : Int) with
    | false =>
      rw [z_f, if_neg (by decide), ← or0]
      rfl
    | true => rw [z_t, if_pos rfl, shl_1 i (by omega), or_nn _ _ (by omega) (by omega)]
  · rw [e_X11_menusLaid_1, if_neg (by omega)]
    rfl
theorem c_X11_count (d : Nat) {μ : jM} {k : Kt} {b : List Nat} {M : Mn} {r : List Int} {T : Nat} (hk : KI μ k) (hb : BI μ 20 b) (hM : MC μ M) (hr : RI μ r) (hT : μ 1 1 = (T : Int)) (x : Int) : CL (d + 4) 202 [jR 0, jI x] μ = rI (cnA k b M r T x) μ := by
  have hs : bset b < 2 ^ 10 := bset_lt hb.2.1.2
  rw [e_X11_count]
  unfold cnA
  by_cases h0 : x = 0
  · rw [if_pos h0, if_pos h0, e_X1_dishes, hk.2.1, bI_r]
  · rw [if_neg h0, if_neg h0]
    by_cases h1 : x = 1
    · rw [if_pos h1, if_pos h1, e_X1_guests, hk.2.2.1, bI_r]
    · rw [if_neg h1, if_neg h1]
      by_cases h2 : x = 2
      · rw [if_pos h2, if_pos h2, c_X0_size _ hb, bI_r]
      · rw [if_neg h2, if_neg h2]
        by_cases h3 : x = 3
        · rw [if_pos h3, if_pos h3, c_X0_last _ hb, bI_r]
        · rw [if_neg h3, if_neg h3]
          by_cases h4 : x = 4
          · rw [if_pos h4, if_pos h4, c_X0_set _ hb, bI_r, c_X1_costOfAll _ hk _ (by omega), bI_r]
          · rw [if_neg h4, if_neg h4]
            by_cases h5 : x = 5
            · rw [if_pos h5, if_pos h5, c_X7_size _ hr, bI_r]
            · rw [if_neg h5, if_neg h5]
              by_cases h6 : x = 6
              · rw [if_pos h6, if_pos h6, e_X10_length, hT, bI_r]
              · rw [if_neg h6, if_neg h6]
                by_cases h7 : x = 7
                · rw [if_pos h7, if_pos h7, c_X11_menusLaid _ hM, bI_r]
                · rw [if_neg h7, if_neg h7]
theorem c_X12_count (d : Nat) {μ : jM} {k : Kt} {b : List Nat} {M : Mn} {r : List Int} {T : Nat} (hk : KR μ k) (hb : SR μ b) (hbk : Bok (kn k) b) (hM : MR μ M) (hr : RR μ r) (hT : μ 69 17 = (T : Int)) (x : Int) : CL (d + 2) 313 [jR 69, jI x] μ = rI (cnA k b M r T x) (jup μ 69 20 0) := by
  have h10 := hk.1.1
  have hk0 := th0_KR hk
  have hb0 := th0_SR hb
  have hl := Bok_len hbk
  rw [e_X12_count]
  unfold cnA
  by_cases h0 : x = 0
  · rw [if_pos h0, if_pos h0, hk0.2.1]
  · rw [if_neg h0, if_neg h0]
    by_cases h1 : x = 1
    · rw [if_pos h1, if_pos h1, hk0.2.2.1]
    · rw [if_neg h1, if_neg h1]
      by_cases h2 : x = 2
      · rw [if_pos h2, if_pos h2, hb0.2.1]
      · rw [if_neg h2, if_neg h2]
        by_cases h3 : x = 3
        · rw [if_pos h3, if_pos h3, c_X12_servedLast _ hb0, bI_r]
        · rw [if_neg h3, if_neg h3]
          by_cases h4 : x = 4
          · rw [if_pos h4, if_pos h4]
            have kb : ∀ i, i ≤ b.length → 0 ≤ kcs k (bset (b.take i)) ∧ kcs k (bset (b.take i)) ≤ 99 * i := fun i => by
              induction i with
              | zero =>
                intro _
                rw [List.take_zero]
                have : kcs k (bset []) = 0 := kcs_0 k
                omega
              | succ i ih =>
                intro hi
                obtain ⟨-, n2, n3, n4⟩ := take_x hb.1 (show i < b.length by omega)
                have hx := take_k hbk (show i < b.length by omega)
                have := ih (by omega)
                have h99 := (hk.1.2.2.1 _ hx).2.2.1
                rw [n3, kcs_s hx n2]
                omega
            have e00 : kcs k (bset (b.take 0)) = 0 := kcs_0 k
            rw [show EV (d + 1) T_X12_count 1 [some (jR 69), none, some (jI 0), some (jI 0)] [] (jup μ 69 20 0) = EV (d + 1) T_X12_count 1 [some (jR 69), none, some (jI (kcs k (bset (b.take 0)))), some (jI ((0 : Nat) : Int))] [] (jup μ 69 20 0) by rw [e00]; rfl]
            refine Eq.trans (lp_0 (fun i : Nat => EV (d + 1) T_X12_count 1 [some (jR 69), none, some (jI (kcs k (bset (b.take i)))), some (jI i)] [] (jup μ 69 20 0)) b.length (fun i hi => ?_)) ?_
            · obtain ⟨n1, n2, n3, n4⟩ := take_x hb.1 hi
              have hx := take_k hbk hi
              have h99 := (hk.1.2.2.1 _ hx).2.2.1
              have hb1 := kb i (by omega)
              rw [e_X12_count_1, hb0.2.1, if_pos (by omega), gd_t (by omega), hb0.2.2 i hi, gd_t (by omega), (hk0.2.2.2.1 _ hx).2.1, w_id (by omega) (by omega), w_s i (by omega), n3, kcs_s hx n2]
            · show EV (d + 1) T_X12_count 1 [some (jR 69), none, some (jI (kcs k (bset (b.take b.length)))), some (jI b.length)] [] (jup μ 69 20 0) = _
              rw [e_X12_count_1, hb0.2.1, if_neg (by omega), List.take_length]
          · rw [if_neg h4, if_neg h4]
            by_cases h5 : x = 5
            · rw [if_pos h5, if_pos h5, (th0_RR hr).2.1]
            · rw [if_neg h5, if_neg h5]
              by_cases h6 : x = 6
              · rw [if_pos h6, if_pos h6, jup_m (by decide), hT]
              · rw [if_neg h6, if_neg h6]
                by_cases h7 : x = 7
                · rw [if_pos h7, if_pos h7]
                  have hM0 := th0_MR hM
                  refine Eq.trans (lp_0 (fun i : Nat => EV (d + 1) T_X12_count 2 [some (jR 69), none, some (jI (bm (fun i => laid M (i : Int)) i : Nat)), some (jI i)] [] (jup μ 69 20 0)) 3 (fun i hi => ?_)) ?_
                  · have hb : bm (fun i => laid M (i : Int)) i < 2 ^ 3 := bm_lt' _ (by omega)
                    have h2i := p2_le (show i ≤ 10 by omega)
                    have eb : bm (fun i => laid M (i : Int)) (i + 1) = bm (fun i => laid M (i : Int)) i ||| (if laid M (i : Int) then 2 ^ i else 0) := rfl
                    have or0 := or_nn (bm (fun i => laid M (i : Int)) i) 0 (by omega) (by omega)
                    rw [e_X12_count_2, if_pos (by omega), gd_t (by omega), (hM0 i hi).2.1, w_s i (by omega), eb, laid_n M i hi]
                    by_cases hz : 0 < (M i).length
                    · rw [if_pos (by omega), decide_eq_true hz, if_pos rfl, shl_1 i (by omega), or_nn _ _ (by omega) (by omega)]
                    · rw [if_neg (by omega), decide_eq_false hz, if_neg (by decide), ← or0]
                      rfl
                  · show EV (d + 1) T_X12_count 2 [some (jR 69), none, some (jI (bm (fun i => laid M (i : Int)) 3 : Nat)), some (jI (3 : Nat))] [] (jup μ 69 20 0) = _
                    rw [e_X12_count_2, if_neg (by decide)]
                    rfl
                · rw [if_neg h7, if_neg h7]
/-- a number of the ROW; none: it throws, the reference says so in its own way -/
theorem c_X11_row (d : Nat) {μ : jM} {r : List Int} (hr : RI μ r) (x : Int) : CL (d + 2) 203 [jR 0, jI x] μ = if 0 ≤ x ∧ x < r.length then rI (r.getD x.toNat 0) μ else rT μ := by
  rw [e_X11_row]
  by_cases hx : 0 ≤ x ∧ x < r.length
  · obtain ⟨n, rfl⟩ := Int.eq_ofNat_of_zero_le hx.1
    rw [if_pos hx, if_neg (by omega), c_X7_size _ hr, bI_r, if_pos (by omega), c_X7_at _ hr n (by omega), bI_r, Int.toNat_natCast]
  · rw [if_neg hx]
    by_cases h1 : x < 0
    · rw [if_pos h1]
    · rw [if_neg h1, c_X7_size _ hr, bI_r, if_neg (by omega)]
theorem c_X12_row (d : Nat) {μ : jM} {r : List Int} (hr : RR μ r) (x : Int) : CL (d + 2) 314 [jR 69, jI x] μ = if 0 ≤ x ∧ x < r.length then rI (r.getD x.toNat 0) (jup μ 69 20 0) else rI 0 (jup μ 69 20 1) := by
  have hr0 := th0_RR hr
  obtain ⟨h1, h2, h3⟩ := hr0
  rw [e_X12_row, c_X12_in, bI_r, h2, w_id (by omega) (by omega)]
  by_cases hx : 0 ≤ x ∧ x < r.length
  · obtain ⟨n, rfl⟩ := Int.eq_ofNat_of_zero_le hx.1
    rw [if_pos hx, if_pos (show 0 ≤ (n : Int) ∧ (n : Int) ≤ (r.length : Int) - 1 by omega), if_neg (by decide), gd_t (by omega), h3 n (by omega), Int.toNat_natCast]
  · rw [if_neg hx, if_neg (show ¬ (0 ≤ x ∧ x ≤ (r.length : Int) - 1) by omega), if_pos rfl, c_X12_lost, bI_r, jup_jup]
