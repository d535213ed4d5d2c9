/-! ## calls that seek: both answer alike -/
theorem fC_29 {μ' μ : jM} (f : ∀ q, q < 29 ∨ 51 < q → μ' q = μ q) : fC μ' μ := ⟨fun q hq => f q (by omega), by rw [f 12 (by omega)]⟩
theorem RoundP_no {k : Kt} {w : Lw} {M f : Nat} {row : List Nat} (h : RoundP k w M f row) : ¬ ∀ f s x, f < kn k → GR k w f s x = false := fun z => by
  obtain ⟨h1, ⟨s, x, h2, -⟩, -⟩ := h
  rw [z f s x h1] at h2
  cases h2
theorem q_longest (d e : Nat) {μ ν : jM} {k : Kt} {w : Lw} {b : List Nat} {r : List Int} (hk : KI μ k) (hw : LI μ 16 w) (hb : BI μ 20 b) (hr : RI μ r) (gk : KR ν k) (gw : LR ν w) (gb : SR ν b) (hbk : Bok (kn k) b) : ∃ v μ' ν' r', CL (d + 7) 168 [jR 0] μ = rI v μ' ∧ CL (e + 7) 269 [jR 69] ν = rI v ν' ∧ fC μ' μ ∧ fR ν' ν ∧ RI μ' r' ∧ RR ν' r' := by
  have hko := hk.1
  obtain ⟨μ1, e1, f1, s1⟩ := c_X11_goOn (d + 1) hk hw hb hbk alw_1023
  have c1 : fC μ1 μ := fC_29 (fun q hq => f1 q (by omega))
  obtain ⟨μ2, m, row, e2, f2, b2, r2⟩ := c_X11_tellMost d s1 (fC_KI c1 hk) (RI_cg hr (f1 50 (by omega)) (f1 51 (by omega)))
  obtain ⟨ν1, m', row', e3, f3, b3, r3⟩ := c_X12_longestBy e (th0_KR gk) (th0_LR gw) (th0_SR gb) hbk (2 ^ kn k - 1) (X12_sall hko)
  have b3' := BestP_A (w := w) (A' := fun _ _ => true) sall_A b3
  rw [rr_A w sall_A] at b3'
  obtain ⟨u1, u2, u3⟩ := BestP_u b2 b3'
  refine ⟨(m : Nat), μ2, ν1, ri row, ?_, ?_, fC_t c1 (fC_29 (fun q hq => f2 q (by omega))), fR_t (fR_0 ν) (fR_f f3), r2, by rw [u3]; exact r3⟩
  · rw [e_X11_longest, e1, bV_r, e2, bI_r]
  · rw [e_X12_longest, c_X12_all _ (th0_KR gk), bI_r, e3, bI_r, u2]
theorem q_bears (d e : Nat) {μ ν : jM} {k : Kt} {w : Lw} {b : List Nat} {r : List Int} (hk : KI μ k) (hw : LI μ 16 w) (hb : BI μ 20 b) (hr : RI μ r) (gk : KR ν k) (gw : LR ν w) (gb : SR ν b) (gr : RR ν r) (hbk : Bok (kn k) b) (x : Int) : ∃ v μ' ν' r', CL (d + 7) 172 [jR 0, jI x] μ = rI v μ' ∧ CL (e + 7) 275 [jR 69, jI x] ν = rI v ν' ∧ fC μ' μ ∧ fR ν' ν ∧ RI μ' r' ∧ RR ν' r' := by
  have hko := hk.1
  have h10 := hko.1
  rw [e_X11_bears, e_X12_bears, c_X1_hasGuest _ hk, c_X12_isGuest _ (th0_KR gk), bI_r, bI_r]
  by_cases hx : 0 ≤ x ∧ x < kg k
  · obtain ⟨g, rfl⟩ := Int.eq_ofNat_of_zero_le hx.1
    have hg : g < kg k := by omega
    rw [if_pos hx, if_neg (by decide), if_neg (by decide), c_X1_barredTo _ hk g hg, bI_r]
    let P : Nat → Bool := fun x => !(bm (fun x => khu k g x) (kn k)).testBit x
    have hB : bm (fun x => khu k g x) (kn k) < 2 ^ 10 := bm_lt' _ h10
    obtain ⟨μ1, e1, f1, s1⟩ := c_X11_goOn (P := P) (d + 1) hk hw hb hbk (Or.inr ⟨bm (fun x => khu k g x) (kn k), by omega, rfl, fun _ _ => rfl⟩)
    have e1 : CL (d + 6) 178 [jR 0, jI (jxor (bm (fun x => khu k g x) (kn k) : Nat) (-1))] μ = rV μ1 := by
      rw [xor_m1 _ (by omega)]
      exact e1
    have c1 : fC μ1 μ := fC_29 (fun q hq => f1 q (by omega))
    obtain ⟨μ2, m, row, e2, f2, b2, r2⟩ := c_X11_tellMost d s1 (fC_KI c1 hk) (RI_cg hr (f1 50 (by omega)) (f1 51 (by omega)))
    let Q : Nat := bm (fun x => !khu k g x) (kn k)
    have hQ : Q < 2 ^ 10 := bm_lt' _ h10
    obtain ⟨ν1, m', row', e3, f3, b3, r3⟩ := c_X12_longestBy e (th0_KR gk) (th0_LR gw) (th0_SR gb) hbk Q (by omega)
    have hA : ∀ (i x : Nat), x < kn k → (fun (_ : Nat) (x : Nat) => Q.testBit x) i x = (fun (_ : Nat) => P) i x := fun i x hx => by
      show (bm (fun x => !khu k g x) (kn k)).testBit x = !(bm (fun x => khu k g x) (kn k)).testBit x
      rw [bm_tb, bm_tb, decide_eq_true hx]
      rfl
    have b3' := BestP_A (w := w) (A' := fun _ => P) hA b3
    rw [rr_A w hA] at b3'
    obtain ⟨u1, u2, u3⟩ := BestP_u b2 b3'
    have run := lp_0 (fun x : Nat => EV (e + 6) T_X12_bears 1 [some (jR 69), some (jI g), some (jI (bm (fun x => !khu k g x) x : Nat)), some (jI x)] [] (jup ν 69 20 0)) (kn k) (fun x hx => by
      have h2x := p2_le (show x ≤ 10 by omega)
      have hbx : bm (fun x => !khu k g x) x < 2 ^ 10 := bm_lt' _ (by omega)
      have eb : bm (fun x => !khu k g x) (x + 1) = bm (fun x => !khu k g x) x ||| (if (!khu k g x) then 2 ^ x else 0) := rfl
      have or0 := or_nn (bm (fun x => !khu k g x) x) 0 (by omega) (by omega)
      rw [e_X12_bears_1, (th0_KR gk).2.1, if_pos (by omega), c_X12_isHungry _ (th0_KR gk) g x hg hx, bI_r, w_s x (by omega), eb]
      cases khu k g x with
      | true =>
        rw [z_t, show jor ((bm (fun x => !khu k g x) x : Nat) : Int) 0 = ((bm (fun x => !khu k g x) x ||| 0 : Nat) : Int) from or0]
        rfl
      | false =>
        rw [z_f, shl_1 x (by omega), or_nn _ _ (by omega) (by omega)]
        rfl)
    refine ⟨(m : Nat), μ2, ν1, ri row, ?_, ?_, fC_t c1 (fC_29 (fun q hq => f2 q (by omega))), fR_t (fR_0 ν) (fR_f f3), r2, by rw [u3]; exact r3⟩
    · rw [e1, bV_r, e2, bI_r]
    · refine Eq.trans run ?_
      rw [e_X12_bears_1, (th0_KR gk).2.1, if_neg (by omega), e3, bI_r, u2]
  · rw [if_neg hx, if_pos rfl, if_pos rfl]
    exact ⟨-1, μ, _, r, rfl, rfl, fC_r μ, fR_0 ν, hr, th0_RR gr⟩
theorem q_betw (d e : Nat) {μ ν : jM} {k : Kt} {w : Lw} {r : List Int} (hk : KI μ k) (hw : LI μ 16 w) (hr : RI μ r) (gk : KR ν k) (gw : LR ν w) (gr : RR ν r) (a c y u : Int) (hv : y = 0 ∧ u = -1 ∨ y = 1 ∧ u = 1) : ∃ v μ' ν' r', CL (d + 6) 181 [jR 0, jI a, jI c, jI u] μ = rI v μ' ∧ CL (e + 7) 272 [jR 69, jI a, jI c, jI y] ν = rI v ν' ∧ fC μ' μ ∧ fR ν' ν ∧ RI μ' r' ∧ RR ν' r' := by
  by_cases ha : 0 ≤ a ∧ a < kn k
  · by_cases hc : 0 ≤ c ∧ c < kn k
    · obtain ⟨f, rfl⟩ := Int.eq_ofNat_of_zero_le ha.1
      obtain ⟨l, rfl⟩ := Int.eq_ofNat_of_zero_le hc.1
      obtain ⟨μ', f1, h1⟩ := c_X11_tellBetween d hk hw hr f l (by omega) (by omega) u (by omega)
      obtain ⟨ν', f2, h2⟩ := c_X12_betweenBy e gk gw gr f l (by omega) (by omega) y u hv
      have c1 : fC μ' μ := fC_29 (fun q hq => f1 q (by omega))
      rcases h1 with ⟨e1, n1, r1⟩ | ⟨m, row, e1, b1, r1⟩
      · rcases h2 with ⟨e2, n2, r2⟩ | ⟨m', row', e2, b2, r2⟩
        · exact ⟨-2, μ', ν', r, e1, e2, c1, fR_f f2, r1, r2⟩
        · obtain ⟨⟨s, x, h5, -⟩, -⟩ := b2
          rw [n1] at h5
          cases h5
      · rcases h2 with ⟨e2, n2, r2⟩ | ⟨m', row', e2, b2, r2⟩
        · obtain ⟨⟨s, x, h5, -⟩, -⟩ := b1
          rw [n2] at h5
          cases h5
        · obtain ⟨-, u2, u3⟩ := BestP_u b1 b2
          exact ⟨(m : Nat), μ', ν', ri row, e1, by rw [u2]; exact e2, c1, fR_f f2, r1, by rw [u3]; exact r2⟩
    · rw [e_X11_tellBetween, e_X12_betweenBy, c_X1_hasDish _ hk, c_X12_isDish _ gk, bI_r, bI_r, if_pos ha, if_neg (by decide), if_neg (by decide), c_X1_hasDish _ hk, c_X12_isDish _ gk, bI_r, bI_r, if_neg hc, if_pos rfl, if_pos rfl]
      exact ⟨-1, μ, ν, r, rfl, rfl, fC_r μ, fR_r ν, hr, gr⟩
  · rw [e_X11_tellBetween, e_X12_betweenBy, c_X1_hasDish _ hk, c_X12_isDish _ gk, bI_r, bI_r, if_neg ha, if_pos rfl, if_pos rfl]
    exact ⟨-1, μ, ν, r, rfl, rfl, fC_r μ, fR_r ν, hr, gr⟩
theorem q_between (d e : Nat) {μ ν : jM} {k : Kt} {w : Lw} {r : List Int} (hk : KI μ k) (hw : LI μ 16 w) (hr : RI μ r) (gk : KR ν k) (gw : LR ν w) (gr : RR ν r) (a c : Int) : ∃ v μ' ν' r', CL (d + 7) 170 [jR 0, jI a, jI c] μ = rI v μ' ∧ CL (e + 8) 273 [jR 69, jI a, jI c] ν = rI v ν' ∧ fC μ' μ ∧ fR ν' ν ∧ RI μ' r' ∧ RR ν' r' := by
  obtain ⟨v, μ', ν', r', e1, e2, c1, c2, r1, r2⟩ := q_betw d e hk hw hr (th0_KR gk) (th0_LR gw) (th0_RR gr) a c 1 1 (Or.inr ⟨rfl, rfl⟩)
  exact ⟨v, μ', ν', r', by rw [e_X11_between, e1, bI_r], by rw [e_X12_between, e2, bI_r], c1, fR_t (fR_0 ν) c2, r1, r2⟩
theorem q_shortest (d e : Nat) {μ ν : jM} {k : Kt} {w : Lw} {r : List Int} (hk : KI μ k) (hw : LI μ 16 w) (hr : RI μ r) (gk : KR ν k) (gw : LR ν w) (gr : RR ν r) (a c : Int) : ∃ v μ' ν' r', CL (d + 7) 171 [jR 0, jI a, jI c] μ = rI v μ' ∧ CL (e + 8) 274 [jR 69, jI a, jI c] ν = rI v ν' ∧ fC μ' μ ∧ fR ν' ν ∧ RI μ' r' ∧ RR ν' r' := by
  obtain ⟨v, μ', ν', r', e1, e2, c1, c2, r1, r2⟩ := q_betw d e hk hw hr (th0_KR gk) (th0_LR gw) (th0_RR gr) a c 0 (-1) (Or.inl ⟨rfl, rfl⟩)
  exact ⟨v, μ', ν', r', by rw [e_X11_shortest, e1, bI_r], by rw [e_X12_shortest, e2, bI_r], c1, fR_t (fR_0 ν) c2, r1, r2⟩
theorem q_round (d e : Nat) {μ ν : jM} {k : Kt} {w : Lw} {r : List Int} (hk : KI μ k) (hw : LI μ 16 w) (hr : RI μ r) (gk : KR ν k) (gw : LR ν w) (gr : RR ν r) : ∃ v μ' ν' r', CL (d + 6) 176 [jR 0] μ = rI v μ' ∧ CL (e + 7) 280 [jR 69] ν = rI v ν' ∧ fC μ' μ ∧ fR ν' ν ∧ RI μ' r' ∧ RR ν' r' := by
  obtain ⟨μ', f1, h1⟩ := c_X11_round d hk hw hr
  obtain ⟨ν', f2, h2⟩ := c_X12_round e gk gw gr
  have c1 := fC_29 f1
  have c2 := fR_t (fR_0 ν) (fR_f f2)
  rcases h1 with ⟨e1, n1, r1⟩ | ⟨m, f, row, e1, b1, r1⟩
  · rcases h2 with ⟨e2, n2, r2⟩ | ⟨m', f', row', e2, b2, r2⟩
    · exact ⟨-2, μ', ν', r, e1, e2, c1, c2, r1, r2⟩
    · exact absurd n1 (RoundP_no b2)
  · rcases h2 with ⟨e2, n2, r2⟩ | ⟨m', f', row', e2, b2, r2⟩
    · exact absurd n2 (RoundP_no b1)
    · obtain ⟨u2, u3⟩ := RoundP_u b1 b2
      exact ⟨(m : Nat), μ', ν', ri row, e1, by rw [u2]; exact e2, c1, c2, r1, by rw [u3]; exact r2⟩
theorem q_game (d e : Nat) {μ ν : jM} {k : Kt} {w : Lw} {b : List Nat} (hk : KI μ k) (hw : LI μ 16 w) (hb : BI μ 20 b) (gk : KR ν k) (gw : LR ν w) (gb : SR ν b) (hbk : Bok (kn k) b) : ∃ v μ' ν' r', CL (d + 6) 189 [jR 0] μ = rI v μ' ∧ CL (e + 7) 294 [jR 69] ν = rI v ν' ∧ fC μ' μ ∧ fR ν' ν ∧ RI μ' r' ∧ RR ν' r' := by
  obtain ⟨μ1, e1, f1, s1⟩ := c_X11_goOn d hk hw hb hbk alw_1023
  have c1 : fC μ1 μ := fC_29 (fun q hq => f1 q (by omega))
  obtain ⟨μ2, e2, f2, r2⟩ := c_X3_playBoth (d + 1) s1
  obtain ⟨ν1, e3, f3, r3⟩ := c_X12_game e gk gw gb hbk
  obtain ⟨u1, u2⟩ := game_same hk.1 w (l0 := bla b) (s0 := bset b) (bset_lt hbk.2)
  rw [u1] at e2
  rw [u2] at r2
  refine ⟨_, μ2, ν1, _, ?_, e3, fC_t c1 ⟨fun q hq => f2 q (by omega) (by omega) (by omega), by rw [f2 12 (by decide) (by decide) (by decide)]⟩, fR_t (fR_0 ν) (fR_f f3), r2, r3⟩
  rw [e_X11_game, e1, bV_r, e2, bI_r]
theorem q_ways (d e : Nat) {μ ν : jM} {k : Kt} {w : Lw} {b : List Nat} {r : List Int} (hk : KI μ k) (hw : LI μ 16 w) (hb : BI μ 20 b) (hr : RI μ r) (gk : KR ν k) (gw : LR ν w) (gb : SR ν b) (gr : RR ν r) (hbk : Bok (kn k) b) (x : Int) : ∃ v μ' ν', CL (d + 6) 169 [jR 0, jI x] μ = rL v μ' ∧ CL (e + 6) 270 [jR 69, jI x] ν = rL v ν' ∧ fC μ' μ ∧ fR ν' ν ∧ RI μ' r ∧ RR ν' r := by
  by_cases hx : 0 ≤ x ∧ x ≤ 10
  · obtain ⟨n, rfl⟩ := Int.eq_ofNat_of_zero_le hx.1
    obtain ⟨μ1, e1, f1, s1⟩ := c_X11_goOn d hk hw hb hbk alw_1023
    have c1 : fC μ1 μ := fC_29 (fun q hq => f1 q (by omega))
    obtain ⟨μ2, e2, f2⟩ := c_X3_countRows d s1 n (by omega)
    obtain ⟨ν1, e3, f3, g3, h3⟩ := c_X12_ways e gk gw gb hbk n (by omega)
    refine ⟨_, μ2, ν1, ?_, e3, fC_t c1 ⟨fun q hq => f2 q (by omega), by rw [f2 12 (by decide)]⟩, fR_t (fR_0 ν) (fR_f f3), RI_cg hr ((f2 50 (by decide)).trans (f1 50 (by omega))) ((f2 51 (by decide)).trans (f1 51 (by omega))), RR_cg gr h3 (by rw [g3]; exact jup_m (by decide))⟩
    rw [e_X11_ways, if_neg (by omega), if_neg (by omega), e1, bV_r, e2, bL_r]
  · refine ⟨-1, μ, jup ν 69 20 0, ?_, ?_, fC_r μ, fR_0 ν, hr, th0_RR gr⟩
    · rw [e_X11_ways]
      by_cases h1 : x < 0
      · rw [if_pos h1]
      · rw [if_neg h1, if_pos (by omega)]
    · rw [e_X12_ways, c_X12_in, if_neg hx, bI_r, if_pos rfl]
theorem q_shut (d e : Nat) {μ ν : jM} {k : Kt} {w : Lw} {r : List Int} (hk : KI μ k) (hw : LI μ 16 w) (hr : RI μ r) (gk : KR ν k) (gw : LR ν w) (gr : RR ν r) (x : Int) : ∃ v μ' ν', CL (d + 6) 177 [jR 0, jI x] μ = rI v μ' ∧ CL (e + 6) 281 [jR 69, jI x] ν = rI v ν' ∧ fC μ' μ ∧ fR ν' ν ∧ RI μ' r ∧ RR ν' r := by
  by_cases hx : 0 ≤ x ∧ x ≤ 9
  · obtain ⟨n, rfl⟩ := Int.eq_ofNat_of_zero_le hx.1
    obtain ⟨μ1, e1, f1, t1, b1⟩ := c_X11_beginAnew d hk hw
    obtain ⟨μ2, e2, f2, s2⟩ := c_reach (d + 1) t1 b1 (Sok_0 k)
    have c2 : fC μ2 μ := fC_t (fC_29 (fun q hq => f1 q (by omega))) ⟨fun q hq => f2 q (by omega), by rw [f2 12 (by decide)]⟩
    obtain ⟨ν1, e3, f3, g3, h3⟩ := c_X12_shut e gk gw n (by omega)
    refine ⟨_, μ2, ν1, ?_, e3, c2, fR_t (fR_0 ν) (fR_f f3), RI_cg hr ((f2 50 (by decide)).trans (f1 50 (by omega))) ((f2 51 (by decide)).trans (f1 51 (by omega))), RR_cg gr h3 (by rw [g3]; exact jup_m (by decide))⟩
    rw [e_X11_shut, if_neg (by omega), if_neg (by omega), e1, bV_r, e2, bV_r, c_X1_all _ (fC_KI c2 hk), bI_r, c_X8_inSetsAbove _ s2, bI_r, shu_sab hk.1]
  · refine ⟨-1, μ, jup ν 69 20 0, ?_, ?_, fC_r μ, fR_0 ν, hr, th0_RR gr⟩
    · rw [e_X11_shut]
      by_cases h1 : x < 0
      · rw [if_pos h1]
      · rw [if_neg h1, if_pos (by omega)]
    · rw [e_X12_shut, c_X12_in, if_neg hx, bI_r, if_pos rfl]
