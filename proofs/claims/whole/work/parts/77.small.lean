/-! ## the banquet and the law: small calls, both sides -/
def srA (k : Kt) (w : Lw) (b : List Nat) (x : Int) : Int := if 0 ≤ x ∧ x < kn k then (if rfs k w (bset b) (bla b) x.toNat = 0 then (b.length : Int) + 1 else rfs k w (bset b) (bla b) x.toNat) else -1
def srB (k : Kt) (w : Lw) (b : List Nat) (x : Int) : List Nat := if (0 ≤ x ∧ x < kn k) ∧ rfs k w (bset b) (bla b) x.toNat = 0 then b ++ [x.toNat] else b
theorem rfs_nb {k : Kt} {w : Lw} {b : List Nat} {x : Nat} (h : rfs k w (bset b) (bla b) x = 0) : x ∉ b := fun hx => by
  have h1 := may_nb (k := k) (w := w) (s := bset b) (l := bla b) (x := x) (by unfold may; rw [h]; rfl)
  rw [bset_tb] at h1
  simp [hx] at h1
theorem Bok_snoc {n : Nat} {b : List Nat} (h : Bok n b) {x : Nat} (hx : x < n) (hn : x ∉ b) : Bok n (b ++ [x]) := by
  refine ⟨?_, fun y hy => ?_⟩
  · rw [List.nodup_append]
    refine ⟨h.1, by simp, fun a ha c hc => ?_⟩
    have : c = x := by simpa using hc
    rw [this]
    exact fun z => hn (z ▸ ha)
  · rcases List.mem_append.mp hy with z | z
    · exact h.2 y z
    · have : y = x := by simpa using z
      omega
theorem srB_ok {k : Kt} {w : Lw} {b : List Nat} (h : Bok (kn k) b) (x : Int) : Bok (kn k) (srB k w b x) := by
  unfold srB
  split
  · rename_i hc
    exact Bok_snoc h (by omega) (rfs_nb hc.2)
  · exact h
theorem bla_S {k : Kt} {b : List Nat} (hbk : Bok (kn k) b) : bla b = 10 ∨ bla b < kn k ∧ (bset b).testBit (bla b) = true := by
  rcases (Sok_b hbk).2 with z | z
  · exact Or.inl z.1
  · exact Or.inr z
theorem c_X11_serve (d : Nat) {μ : jM} {k : Kt} {w : Lw} {b : List Nat} (hk : KI μ k) (hw : LI μ 16 w) (hb : BI μ 20 b) (hbk : Bok (kn k) b) (x : Int) : ∃ μ', CL (d + 5) 156 [jR 0, jI x] μ = rI (srA k w b x) μ' ∧ (∀ q, q ≠ 20 → q ≠ 21 → μ' q = μ q) ∧ BI μ' 20 (srB k w b x) := by
  have h10 := hk.1.1
  have hs := bset_lt hbk.2
  have hN := p2_le h10
  rw [e_X11_serve, c_X1_hasDish _ hk, bI_r]
  unfold srA srB
  by_cases hx : 0 ≤ x ∧ x < kn k
  · obtain ⟨n, rfl⟩ := Int.eq_ofNat_of_zero_le hx.1
    rw [if_pos hx, if_neg (by decide), if_pos hx, c_X0_set _ hb, bI_r, c_X0_last _ hb, bI_r, c_X2_refusal _ hw hk (bset b) (bla b) n (by omega) (by rcases bla_S hbk with z | z; exact Or.inl z; exact Or.inr z.1) (by omega), bI_r, Int.toNat_natCast]
    by_cases h0 : rfs k w (bset b) (bla b) n = 0
    · obtain ⟨μ1, e1, f1, b1⟩ := c_X0_add (d + 3) hb n (by omega) (rfs_nb h0)
      rw [if_pos h0, if_pos h0, if_pos ⟨hx, h0⟩, e1, bV_r, c_X0_size _ b1, bI_r]
      refine ⟨μ1, ?_, f1, b1⟩
      rw [List.length_append]
      rfl
    · rw [if_neg h0, if_neg h0, if_neg (fun z => h0 z.2)]
      exact ⟨μ, rfl, fun _ _ _ => rfl, hb⟩
  · rw [if_neg hx, if_pos rfl, if_neg hx, if_neg (fun z => hx z.1)]
    exact ⟨μ, rfl, fun _ _ _ => rfl, hb⟩
/-- the reference's place 69 and the banquet's -/
def fRb (ν' ν : jM) : Prop := (∀ q, q ≠ 69 → q ≠ 77 → ν' q = ν q) ∧ ∀ j : Int, j ≠ 13 → j ≠ 20 → ν' 69 j = ν 69 j
theorem c_X12_serve (d : Nat) {μ : jM} {k : Kt} {w : Lw} {b : List Nat} (hk : KR μ k) (hw : LR μ w) (hb : SR μ b) (hbk : Bok (kn k) b) (x : Int) : ∃ μ', CL (d + 4) 245 [jR 69, jI x] μ = rI (srA k w b x) μ' ∧ fRb μ' μ ∧ SR μ' (srB k w b x) := by
  have h10 := hk.1.1
  have hs := bset_lt hbk.2
  have hN := p2_le h10
  have f0 : fRb (jup μ 69 20 0) μ := ⟨fun q h1 _ => jup_ne h1, fun j _ h2 => jup_m h2⟩
  have hk0 := th0_KR hk
  have hw0 := th0_LR hw
  have hb0 := th0_SR hb
  rw [e_X12_serve, c_X12_isDish _ hk0, bI_r]
  unfold srA srB
  by_cases hx : 0 ≤ x ∧ x < kn k
  · obtain ⟨n, rfl⟩ := Int.eq_ofNat_of_zero_le hx.1
    have hle := (rfs_le k w (bset b) (bla b) n).2
    rw [if_pos hx, if_neg (by decide), if_pos hx, c_X12_servedSet _ hb0, bI_r, c_X12_servedLast _ hb0, bI_r, c_X12_refusal _ hk0 hw0 (bset b) (bla b) n hs (bla_S hbk) (by omega), bI_r, Int.toNat_natCast]
    by_cases h0 : rfs k w (bset b) (bla b) n = 0
    · have hnb := rfs_nb h0
      have hok := Bok_snoc hbk (show n < kn k by omega) hnb
      have hlen := Bok_len hok
      rw [List.length_append] at hlen
      have hlen : b.length + 1 ≤ kn k := hlen
      have hok10 : Bok 10 (b ++ [n]) := ⟨hok.1, fun y hy => by have := hok.2 y hy; omega⟩
      have el : jup μ 69 20 0 69 13 = (b.length : Int) := hb0.2.1
      rw [h0, if_neg (show ¬ (0 : Int) < 0 by decide), if_pos (show (0 : Int) = 0 from rfl), if_pos (show (0 ≤ (n : Int) ∧ (n : Int) < kn k) ∧ (0 : Int) = 0 from ⟨hx, rfl⟩), el, gd_t (by omega), jup_ne (show (69 : Nat) ≠ 77 by decide), el, w_id (by omega) (by omega), jup_r]
      refine ⟨_, rfl, ⟨fun q h1 h2 => ?_, fun j h1 h2 => ?_⟩, hok10, ?_, ?_⟩
      · rw [jup_ne h1, jup_ne h2, jup_ne h1]
      · rw [jup_m h1, jup_ne (by decide), jup_m h2]
      · rw [jup_r, List.length_append]
        rfl
      · rw [jup_ne (by decide)]
        have := LAn_snoc (v := n) hb0.2.2
        intro i hi
        have h3 := this i hi
        rw [← h3]
        by_cases hil : (i : Int) = (b.length : Int)
        · rw [hil, jup_r]
          exact (if_pos rfl).symm
        · rw [jup_m hil]
          exact (if_neg hil).symm
    · rw [if_pos (show rfs k w (bset b) (bla b) n < 0 by omega), if_neg h0, if_neg (show ¬ ((0 ≤ (n : Int) ∧ (n : Int) < kn k) ∧ rfs k w (bset b) (bla b) n = 0) from fun z => h0 z.2)]
      exact ⟨_, rfl, f0, hb0⟩
  · rw [if_neg hx, if_pos rfl, if_neg hx, if_neg (fun z => hx z.1)]
    exact ⟨_, rfl, f0, hb0⟩
theorem c_X11_back (d : Nat) {μ : jM} {b : List Nat} (hb : BI μ 20 b) : ∃ μ', CL (d + 3) 157 [jR 0] μ = rI (lno (bla b)) μ' ∧ (∀ q, q ≠ 20 → μ' q = μ q) ∧ BI μ' 20 b.dropLast := by
  obtain ⟨μ1, e1, f1, b1⟩ := c_X0_takeLast d hb
  refine ⟨μ1, ?_, f1, b1⟩
  rw [e_X11_back, e1, bI_r]
theorem Bok_drop {n : Nat} {b : List Nat} (h : Bok n b) : Bok n b.dropLast := ⟨h.1.sublist (List.dropLast_sublist b), fun x hx => h.2 x ((List.dropLast_sublist b).subset hx)⟩
theorem c_X12_back (d : Nat) {μ : jM} {b : List Nat} (hb : SR μ b) : ∃ μ', CL (d + 1) 246 [jR 69] μ = rI (lno (bla b)) μ' ∧ fRb μ' μ ∧ SR μ' b.dropLast := by
  have f0 : fRb (jup μ 69 20 0) μ := ⟨fun q h1 _ => jup_ne h1, fun j _ h2 => jup_m h2⟩
  have hb0 := th0_SR hb
  have hl := Bok_len hb.1
  have el : jup μ 69 20 0 69 13 = (b.length : Int) := hb0.2.1
  rw [e_X12_back, el]
  by_cases hz : b = []
  · subst hz
    exact ⟨_, if_pos rfl, f0, hb0⟩
  · have hp : 0 < b.length := List.length_pos_iff.mpr hz
    have hlt := hb.1.2 _ (bla_mem hz)
    have e1 : (b.length : Int) - 1 = ((b.length - 1 : Nat) : Int) := by omega
    have v : jup (jup μ 69 20 0) 69 13 ((b.length - 1 : Nat) : Int) 77 ((b.length - 1 : Nat) : Int) = lno (bla b) := by
      rw [jup_ne (by decide), hb0.2.2 _ (by omega), bla_at hz]
      unfold lno
      rw [if_neg (by rw [← bla_at hz]; omega)]
    rw [if_neg (by omega), w_id (by omega) (by omega), e1, jup_r, gd_t (by omega), v]
    refine ⟨_, rfl, ⟨fun q h1 h2 => ?_, fun j h1 h2 => ?_⟩, Bok_drop hb.1, ?_, ?_⟩
    · rw [jup_ne h1, jup_ne h1]
    · rw [jup_m h1, jup_m h2]
    · rw [jup_r, List.length_dropLast]
    · intro i hi
      rw [List.length_dropLast] at hi
      rw [jup_ne (by decide), hb0.2.2 i (by omega)]
      congr 1
      rw [List.getD_eq_getElem?_getD, List.getD_eq_getElem?_getD, List.getElem?_dropLast, if_pos hi]
def caA (k : Kt) (w : Lw) (b : List Nat) : Nat := bm (fun x => rfs k w (bset b) (bla b) x == 0) (kn k)
theorem c_X11_can (d : Nat) {μ : jM} {k : Kt} {w : Lw} {b : List Nat} (hk : KI μ k) (hw : LI μ 16 w) (hb : BI μ 20 b) (hbk : Bok (kn k) b) : CL (d + 5) 159 [jR 0] μ = rI (caA k w b : Nat) μ := by
  have h10 := hk.1.1
  have hs := bset_lt hbk.2
  have hN := p2_le h10
  have gd9 : ∀ d, CL (d + 1) 9 [jR 3] μ = rI (kn k : Int) μ := fun d => by rw [e_X1_dishes, hk.2.1]
  rw [e_X11_can]
  refine (lp_0 (fun x : Nat => EV (d + 4) T_X11_can 1 [some (jR 0), some (jI (bm (fun x => rfs k w (bset b) (bla b) x == 0) x : Nat)), some (jI x)] [] μ) (kn k) (fun x hx => ?_)).trans ?_
  · have h2x := p2_le (show x ≤ 10 by omega)
    have hbx : bm (fun x => rfs k w (bset b) (bla b) x == 0) x < 2 ^ 10 := bm_lt' _ (by omega)
    have eb : bm (fun x => rfs k w (bset b) (bla b) x == 0) (x + 1) = bm (fun x => rfs k w (bset b) (bla b) x == 0) x ||| (if (rfs k w (bset b) (bla b) x == 0) then 2 ^ x else 0) := rfl
    rw [e_X11_can_1, gd9, bI_r, if_pos (by omega), c_X0_set _ hb, bI_r, c_X0_last _ hb, bI_r, c_X2_refusal _ hw hk (bset b) (bla b) x (by omega) (by rcases bla_S hbk with z | z; exact Or.inl z; exact Or.inr z.1) (by omega), bI_r, w_s x (by omega), eb]
    by_cases h0 : rfs k w (bset b) (bla b) x = 0
    · rw [if_pos h0, h0, shl_1 x (by omega), or_nn _ _ (by omega) (by omega)]
      rfl
    · have e1 : (rfs k w (bset b) (bla b) x == 0) = false := by simpa using h0
      rw [if_neg h0, e1, if_neg (by decide), Nat.or_zero]
  · rw [e_X11_can_1, gd9, bI_r, if_neg (by omega)]
    rfl
theorem c_X12_can (d : Nat) {μ : jM} {k : Kt} {w : Lw} {b : List Nat} (hk : KR μ k) (hw : LR μ w) (hb : SR μ b) (hbk : Bok (kn k) b) : CL (d + 4) 248 [jR 69] μ = rI (caA k w b : Nat) (jup μ 69 20 0) := by
  have h10 := hk.1.1
  have hs := bset_lt hbk.2
  have hN := p2_le h10
  have hk0 := th0_KR hk
  have hw0 := th0_LR hw
  have hb0 := th0_SR hb
  rw [e_X12_can]
  refine (lp_0 (fun x : Nat => EV (d + 3) T_X12_can 1 [some (jR 69), some (jI (bm (fun x => rfs k w (bset b) (bla b) x == 0) x : Nat)), some (jI x)] [] (jup μ 69 20 0)) (kn k) (fun x hx => ?_)).trans ?_
  · have h2x := p2_le (show x ≤ 10 by omega)
    have hbx : bm (fun x => rfs k w (bset b) (bla b) x == 0) x < 2 ^ 10 := bm_lt' _ (by omega)
    have eb : bm (fun x => rfs k w (bset b) (bla b) x == 0) (x + 1) = bm (fun x => rfs k w (bset b) (bla b) x == 0) x ||| (if (rfs k w (bset b) (bla b) x == 0) then 2 ^ x else 0) := rfl
    have or0 := or_nn (bm (fun x => rfs k w (bset b) (bla b) x == 0) x) 0 (by omega) (by omega)
    rw [e_X12_can_1, hk0.2.1, if_pos (by omega), c_X12_servedSet _ hb0, bI_r, c_X12_servedLast _ hb0, bI_r, c_X12_refusal _ hk0 hw0 (bset b) (bla b) x hs (bla_S hbk) hx, bI_r, w_s x (by omega), eb]
    by_cases h0 : rfs k w (bset b) (bla b) x = 0
    · rw [if_pos h0, h0, shl_1 x (by omega), or_nn _ _ (by omega) (by omega)]
      rfl
    · have e1 : (rfs k w (bset b) (bla b) x == 0) = false := by simpa using h0
      rw [if_neg h0, e1, if_neg (by decide), ← or0]
      rfl
  · rw [e_X12_can_1, hk0.2.1, if_neg (by omega)]
    rfl
/-! ### the law's numbers -/
abbrev lawA (x v : Int) : Prop := x = 0 ∧ 1 ≤ v ∧ v ≤ 8 ∨ x = 1 ∧ 1 ≤ v ∧ v ≤ 9 ∨ x = 2 ∧ 0 ≤ v ∧ v ≤ 2
def laA (w : Lw) (x v : Int) : Int := if lawA x v then (lget w x.toNat : Int) else -1
def laW (w : Lw) (x v : Int) : Lw := if lawA x v then lput w x.toNat v.toNat else w
theorem c_X11_law (d : Nat) {μ : jM} {w : Lw} (hw : LI μ 16 w) (x v : Int) : ∃ μ', CL (d + 2) 152 [jR 0, jI x, jI v] μ = rI (laA w x v) μ' ∧ (∀ q, q ≠ 16 → μ' q = μ q) ∧ LI μ' 16 (laW w x v) := by
  rw [e_X11_law, c_X2_allows, bI_r]
  unfold laA laW
  by_cases h : lawA x v
  · have h' := h
    unfold lawA at h'
    obtain ⟨a, rfl⟩ := Int.eq_ofNat_of_zero_le (show 0 ≤ x by omega)
    obtain ⟨c, rfl⟩ := Int.eq_ofNat_of_zero_le (show 0 ≤ v by omega)
    obtain ⟨μ1, e1, f1, l1⟩ := c_X2_change d hw a c (by omega)
    rw [if_pos h', if_neg (by decide), if_pos h, if_pos h, e1, bI_r, Int.toNat_natCast, Int.toNat_natCast]
    exact ⟨μ1, rfl, f1, l1⟩
  · rw [if_neg (show ¬ (x = 0 ∧ 1 ≤ v ∧ v ≤ 8 ∨ x = 1 ∧ 1 ≤ v ∧ v ≤ 9 ∨ x = 2 ∧ 0 ≤ v ∧ v ≤ 2) from h), if_pos rfl, if_neg h, if_neg h]
    exact ⟨μ, rfl, fun _ _ => rfl, hw⟩
theorem c_X12_law (d : Nat) {μ : jM} {w : Lw} (hw : LR μ w) (x v : Int) : ∃ μ', CL (d + 3) 236 [jR 69, jI x, jI v] μ = rI (laA w x v) μ' ∧ ((∀ q, q ≠ 69 → μ' q = μ q) ∧ ∀ j : Int, j ≠ 9 → j ≠ 10 → j ≠ 11 → j ≠ 20 → μ' 69 j = μ 69 j) ∧ LR μ' (laW w x v) := by
  have hw0 := th0_LR hw
  obtain ⟨h1, h2, h3, h4, h5⟩ := hw0
  rw [e_X12_law, c_X12_isLaw, bI_r]
  unfold laA laW
  by_cases h : lawA x v
  · have h' := h
    unfold lawA at h'
    rw [if_pos (show x = 0 ∧ 1 ≤ v ∧ v ≤ 8 ∨ x = 1 ∧ 1 ≤ v ∧ v ≤ 9 ∨ x = 2 ∧ 0 ≤ v ∧ v ≤ 2 from h'), if_neg (by decide), if_pos h, if_pos h]
    have fr : ∀ i : Int, i = 9 ∨ i = 10 ∨ i = 11 → (∀ q, q ≠ 69 → jup (jup μ 69 20 0) 69 i v q = μ q) ∧ ∀ j : Int, j ≠ 9 → j ≠ 10 → j ≠ 11 → j ≠ 20 → jup (jup μ 69 20 0) 69 i v 69 j = μ 69 j := fun i hi => ⟨fun q hq => (jup_ne hq).trans (jup_ne hq), fun j a b c d => (jup_m (by omega)).trans (jup_m d)⟩
    rcases h' with ⟨rfl, hv⟩ | ⟨rfl, hv⟩ | ⟨rfl, hv⟩
    · refine ⟨_, by rw [if_pos rfl, if_pos rfl, h2]; rfl, fr 9 (by omega), ⟨⟨by show 1 ≤ v.toNat ∧ v.toNat ≤ 8; omega, h1.2⟩, ?_, ?_, ?_, fun s hs => ?_⟩⟩
      · rw [jup_r]
        show v = (v.toNat : Int)
        omega
      · rw [jup_m (by decide)]; exact h3
      · rw [jup_m (by decide)]; exact h4
      · rw [jup_ne (by decide)]; exact h5 s hs
    · refine ⟨_, by rw [if_neg (by decide), if_pos rfl, if_neg (by decide), if_pos rfl, h3]; rfl, fr 10 (by omega), ⟨⟨h1.1, by show 1 ≤ v.toNat ∧ v.toNat ≤ 9; omega, h1.2.2⟩, ?_, ?_, ?_, fun s hs => ?_⟩⟩
      · rw [jup_m (by decide)]; exact h2
      · rw [jup_r]
        show v = (v.toNat : Int)
        omega
      · rw [jup_m (by decide)]; exact h4
      · rw [jup_ne (by decide)]; exact h5 s hs
    · refine ⟨_, by rw [if_neg (by decide), if_neg (by decide), if_neg (by decide), if_neg (by decide), h4]; rfl, fr 11 (by omega), ⟨⟨h1.1, h1.2.1, by show v.toNat ≤ 2; omega, h1.2.2.2⟩, ?_, ?_, ?_, fun s hs => ?_⟩⟩
      · rw [jup_m (by decide)]; exact h2
      · rw [jup_m (by decide)]; exact h3
      · rw [jup_r]
        show v = (v.toNat : Int)
        omega
      · rw [jup_ne (by decide)]; exact h5 s hs
  · rw [if_neg (show ¬ (x = 0 ∧ 1 ≤ v ∧ v ≤ 8 ∨ x = 1 ∧ 1 ≤ v ∧ v ≤ 9 ∨ x = 2 ∧ 0 ≤ v ∧ v ≤ 2) from h), if_pos rfl, if_neg h, if_neg h]
    exact ⟨_, rfl, ⟨fun q hq => jup_ne hq, fun j _ _ _ h => jup_m h⟩, th0_LR hw⟩
def stA (w : Lw) (s v : Int) : Int := if 0 ≤ s ∧ s < 8 ∧ 0 ≤ v ∧ v ≤ 99 then (lst w s.toNat : Int) else -1
def stW (w : Lw) (s v : Int) : Lw := if 0 ≤ s ∧ s < 8 ∧ 0 ≤ v ∧ v ≤ 99 then (lsh w, lti w, lhe w, fun x => if x = s.toNat then v.toNat else lst w x) else w
theorem c_X11_store (d : Nat) {μ : jM} {w : Lw} (hw : LI μ 16 w) (s v : Int) : ∃ μ', CL (d + 2) 153 [jR 0, jI s, jI v] μ = rI (stA w s v) μ' ∧ (∀ q, q ≠ 17 → μ' q = μ q) ∧ LI μ' 16 (stW w s v) := by
  rw [e_X11_store]
  unfold stA stW
  by_cases h : 0 ≤ s ∧ s < 8 ∧ 0 ≤ v ∧ v ≤ 99
  · obtain ⟨a, rfl⟩ := Int.eq_ofNat_of_zero_le (show 0 ≤ s by omega)
    obtain ⟨c, rfl⟩ := Int.eq_ofNat_of_zero_le (show 0 ≤ v by omega)
    rw [if_neg (show ¬ (a : Int) < 0 by omega), if_pos (show (a : Int) < 8 by omega), if_neg (show ¬ (c : Int) < 0 by omega), if_neg (show ¬ (99 : Int) < (c : Int) by omega), if_neg (by decide), if_pos h, if_pos h, c_X2_restock _ hw a (by omega), bI_r, Int.toNat_natCast, Int.toNat_natCast]
    exact ⟨_, rfl, fun q hq => jup_ne hq, LI_restock hw a c (by omega) (by omega)⟩
  · rw [if_neg h, if_neg h]
    refine ⟨μ, ?_, fun _ _ => rfl, hw⟩
    by_cases h1 : s < 0
    · rw [if_pos h1, if_pos rfl]
    · rw [if_neg h1]
      by_cases h2 : s < 8
      · rw [if_pos h2]
        by_cases h3 : v < 0
        · rw [if_pos h3, if_pos rfl]
        · rw [if_neg h3, if_pos (show (99 : Int) < v by omega), if_pos rfl]
      · rw [if_neg h2, if_pos rfl]
theorem c_X12_store (d : Nat) {μ : jM} {w : Lw} (hw : LR μ w) (s v : Int) : ∃ μ', CL (d + 2) 237 [jR 69, jI s, jI v] μ = rI (stA w s v) μ' ∧ ((∀ q, q ≠ 69 → q ≠ 70 → μ' q = μ q) ∧ ∀ j : Int, j ≠ 20 → μ' 69 j = μ 69 j) ∧ LR μ' (stW w s v) := by
  have hw0 := th0_LR hw
  have f0 : (∀ q, q ≠ 69 → q ≠ 70 → jup μ 69 20 0 q = μ q) ∧ ∀ j : Int, j ≠ 20 → jup μ 69 20 0 69 j = μ 69 j := ⟨fun q h _ => jup_ne h, fun j h => jup_m h⟩
  rw [e_X12_store, c_X12_in, bI_r]
  unfold stA stW
  by_cases h : 0 ≤ s ∧ s < 8 ∧ 0 ≤ v ∧ v ≤ 99
  · obtain ⟨a, rfl⟩ := Int.eq_ofNat_of_zero_le (show 0 ≤ s by omega)
    obtain ⟨c, rfl⟩ := Int.eq_ofNat_of_zero_le (show 0 ≤ v by omega)
    rw [if_pos (show 0 ≤ (a : Int) ∧ (a : Int) ≤ 7 by omega), if_neg (by decide), c_X12_in, bI_r, if_pos (show 0 ≤ (c : Int) ∧ (c : Int) ≤ 99 by omega), if_neg (by decide), gd_t (by omega), gd_t (by omega), if_pos h, if_pos h, Int.toNat_natCast, Int.toNat_natCast, hw0.2.2.2.2 a (by omega)]
    obtain ⟨h1, h2, h3, h4, h5⟩ := hw0
    refine ⟨_, rfl, ⟨fun q g1 g2 => (jup_ne g2).trans (jup_ne g1), fun j g => by rw [jup_ne (by decide)]; exact jup_m g⟩, ⟨h1.1, h1.2.1, h1.2.2.1, fun y hy => ?_⟩, ?_, ?_, ?_, fun y hy => ?_⟩
    · show (if y = a then c else lst w y) ≤ 99
      split
      · omega
      · exact h1.2.2.2 y hy
    · rw [jup_ne (by decide)]; exact h2
    · rw [jup_ne (by decide)]; exact h3
    · rw [jup_ne (by decide)]; exact h4
    · show jup (jup μ 69 20 0) 70 (a : Int) (c : Int) 70 (y : Int) = ((if y = a then c else lst w y : Nat) : Int)
      by_cases hy2 : y = a
      · rw [hy2, jup_r, if_pos rfl]
      · rw [jup_m (by omega), if_neg hy2]
        exact h5 y hy
  · rw [if_neg h, if_neg h]
    by_cases h1 : 0 ≤ s ∧ s ≤ 7
    · rw [if_pos h1, if_neg (by decide), c_X12_in, bI_r, if_neg (show ¬ (0 ≤ v ∧ v ≤ 99) by omega), if_pos rfl]
      exact ⟨_, rfl, f0, hw0⟩
    · rw [if_neg h1, if_pos rfl]
      exact ⟨_, rfl, f0, hw0⟩
