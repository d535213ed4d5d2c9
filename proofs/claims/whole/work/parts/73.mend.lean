/-! ## how few changes mend a MENU -/
def mnI (F : Int) (P : Nat → Bool) (f : Nat → Int) : Nat → Int
  | 0 => F
  | n + 1 => if P n then min (mnI F P f n) (f n) else mnI F P f n
theorem mnI_cg {F : Int} {P Q : Nat → Bool} {f g : Nat → Int} : ∀ {n : Nat}, (∀ x, x < n → P x = Q x) → (∀ x, x < n → P x = true → f x = g x) → mnI F P f n = mnI F Q g n
  | 0, _, _ => rfl
  | n + 1, h1, h2 => by
    unfold mnI
    rw [mnI_cg (fun x hx => h1 x (by omega)) (fun x hx => h2 x (by omega)), ← h1 n (by omega)]
    by_cases hp : P n = true
    · rw [if_pos hp, if_pos hp, h2 n (by omega) hp]
    · rw [if_neg hp, if_neg hp]
theorem mnI_at (F : Int) (P : Nat → Bool) (f : Nat → Int) : ∀ n, mnI F P f n = F ∨ ∃ x, x < n ∧ P x = true ∧ f x = mnI F P f n
  | 0 => Or.inl rfl
  | n + 1 => by
    unfold mnI
    by_cases hp : P n = true
    · rw [if_pos hp]
      by_cases hlt : mnI F P f n ≤ f n
      · rw [show min (mnI F P f n) (f n) = mnI F P f n by omega]
        rcases mnI_at F P f n with h | ⟨x, h1, h2, h3⟩
        · exact Or.inl h
        · exact Or.inr ⟨x, by omega, h2, h3⟩
      · exact Or.inr ⟨n, by omega, hp, by omega⟩
    · rw [if_neg hp]
      rcases mnI_at F P f n with h | ⟨x, h1, h2, h3⟩
      · exact Or.inl h
      · exact Or.inr ⟨x, by omega, h2, h3⟩
theorem mnI_b {F : Int} {P : Nat → Bool} {f : Nat → Int} (hF : 0 ≤ F) : ∀ {n : Nat}, (∀ x, x < n → P x = true → 0 ≤ f x) → 0 ≤ mnI F P f n ∧ mnI F P f n ≤ F
  | 0, _ => ⟨hF, Int.le_refl _⟩
  | n + 1, h => by
    have ih := mnI_b (P := P) (f := f) hF (n := n) (fun x hx => h x (by omega))
    unfold mnI
    by_cases hp : P n = true
    · rw [if_pos hp]
      have := h n (by omega) hp
      omega
    · rw [if_neg hp]
      exact ih
/-- two caps, one answer -/
def two (F G : Int) (r : Nat) (a b : Int) : Prop := 0 ≤ a ∧ a ≤ r ∧ b = a ∨ F ≤ a ∧ G ≤ b
theorem mnI_two {F G : Int} {r : Nat} (hF : r < F) (hG : r < G) {P : Nat → Bool} {f g : Nat → Int} : ∀ {n : Nat}, (∀ x, x < n → P x = true → two F G r (f x) (g x)) → two F G r (mnI F P f n) (mnI G P g n)
  | 0, _ => Or.inr ⟨Int.le_refl _, Int.le_refl _⟩
  | n + 1, h => by
    have ih := mnI_two hF hG (P := P) (f := f) (g := g) (n := n) (fun x hx => h x (by omega))
    unfold mnI
    by_cases hp : P n = true
    · rw [if_pos hp, if_pos hp]
      have h2 := h n (by omega) hp
      unfold two at ih h2 ⊢
      omega
    · rw [if_neg hp, if_neg hp]
      exact ih
/-- is another DISH put there: one change -/
def dch (m : List Nat) (s x : Nat) : Int := if m.getD (pc s) 10 = x then 0 else 1
theorem dch_b (m : List Nat) (s x : Nat) : 0 ≤ dch m s x ∧ dch m s x ≤ 1 := by
  unfold dch
  split <;> omega
/-- the fewest changes behind (s, l), r places to go; F: none -/
def mcI (F : Int) (k : Kt) (w : Lw) (m : List Nat) : Nat → Nat → Nat → Int
  | 0, _, _ => 0
  | r + 1, s, l => mnI F (fun x => SS k w (fun _ _ => true) 0 s l x) (fun x => mcI F k w m r (s ||| 2 ^ x) x + dch m s x) 10
theorem mcI_b {F : Int} (hF : 0 ≤ F) (k : Kt) (w : Lw) (m : List Nat) : ∀ r s l, 0 ≤ mcI F k w m r s l ∧ mcI F k w m r s l ≤ F
  | 0, _, _ => ⟨Int.le_refl _, hF⟩
  | r + 1, s, l => mnI_b hF (fun x _ _ => by
    have h1 := (mcI_b hF k w m r (s ||| 2 ^ x) x).1
    have h2 := dch_b m s x
    omega)
theorem mcI_two {F G : Int} {N : Nat} (hF : N < F) (hG : N < G) (k : Kt) (w : Lw) (m : List Nat) : ∀ r, r ≤ N → ∀ s l, two F G r (mcI F k w m r s l) (mcI G k w m r s l)
  | 0, _, _, _ => Or.inl ⟨Int.le_refl _, Int.le_refl _, rfl⟩
  | r + 1, hr, s, l => mnI_two (by omega) (by omega) (fun x _ _ => by
    have h1 := mcI_two hF hG k w m r (by omega) (s ||| 2 ^ x) x
    have h2 := dch_b m s x
    unfold two at h1 ⊢
    omega)
/-- the DISH that is put there -/
def mnx (F : Int) (k : Kt) (w : Lw) (m : List Nat) (r s l : Nat) : Nat := fs (fun x => SS k w (fun _ _ => true) 0 s l x && decide (mcI F k w m r (s ||| 2 ^ x) x + dch m s x = mcI F k w m (r + 1) s l)) 10
def mtl (F : Int) (k : Kt) (w : Lw) (m : List Nat) : Nat → Nat → Nat → List Int
  | 0, _, _ => []
  | r + 1, s, l => (mnx F k w m r s l : Int) :: mtl F k w m r (s ||| 2 ^ mnx F k w m r s l) (mnx F k w m r s l)
theorem mnx_S {F : Int} {k : Kt} {w : Lw} {m : List Nat} {r s l : Nat} (h : mcI F k w m (r + 1) s l < F) : mnx F k w m r s l < 10 ∧ SS k w (fun _ _ => true) 0 s l (mnx F k w m r s l) = true ∧ mcI F k w m r (s ||| 2 ^ mnx F k w m r s l) (mnx F k w m r s l) + dch m s (mnx F k w m r s l) = mcI F k w m (r + 1) s l := by
  have hat := mnI_at F (fun x => SS k w (fun _ _ => true) 0 s l x) (fun x => mcI F k w m r (s ||| 2 ^ x) x + dch m s x) 10
  have ha : anb (fun x => SS k w (fun _ _ => true) 0 s l x && decide (mcI F k w m r (s ||| 2 ^ x) x + dch m s x = mcI F k w m (r + 1) s l)) 10 = true := by
    rcases hat with h1 | ⟨x, h1, h2, h3⟩
    · exact absurd h (by show ¬ mnI F (fun x => SS k w (fun _ _ => true) 0 s l x) (fun x => mcI F k w m r (s ||| 2 ^ x) x + dch m s x) 10 < F; omega)
    · refine anb_iff.mpr ⟨x, h1, ?_⟩
      rw [Bool.and_eq_true]
      exact ⟨h2, decide_eq_true h3⟩
  have hlt := (fs_anb _ _).mpr ha
  have := (fs_spec _ _).2.2 hlt
  rw [Bool.and_eq_true, decide_eq_true_eq] at this
  exact ⟨hlt, this.1, this.2⟩
theorem mtl_len (F : Int) (k : Kt) (w : Lw) (m : List Nat) : ∀ r s l, (mtl F k w m r s l).length = r
  | 0, _, _ => rfl
  | r + 1, s, l => by
    show (_ :: _).length = r + 1
    rw [List.length_cons, mtl_len F k w m r]
theorem mtl_two {F G : Int} {N : Nat} (hF : N + 1 < F) (hG : N + 1 < G) (k : Kt) (w : Lw) (m : List Nat) : ∀ r, r ≤ N → ∀ s l, mcI F k w m r s l < F → mtl F k w m r s l = mtl G k w m r s l
  | 0, _, _, _, _ => rfl
  | r + 1, hr, s, l, h => by
    have h1 := mcI_two (N := N) (show (N : Int) < F by omega) (show (N : Int) < G by omega) k w m (r + 1) hr s l
    have en : mnx F k w m r s l = mnx G k w m r s l := fs_cg (fun x _ => by
      have h2 := mcI_two (N := N) (show (N : Int) < F by omega) (show (N : Int) < G by omega) k w m r (by omega) (s ||| 2 ^ x) x
      have h3 := dch_b m s x
      congr 1
      unfold two at h1 h2
      by_cases hz : mcI F k w m r (s ||| 2 ^ x) x + dch m s x = mcI F k w m (r + 1) s l
      · rw [decide_eq_true hz, decide_eq_true (by omega)]
      · rw [decide_eq_false hz, decide_eq_false (by omega)])
    obtain ⟨-, -, n3⟩ := mnx_S h
    have h3 := dch_b m s (mnx F k w m r s l)
    show ((mnx F k w m r s l : Nat) : Int) :: mtl F k w m r _ _ = ((mnx G k w m r s l : Nat) : Int) :: mtl G k w m r _ _
    rw [← en, mtl_two hF hG k w m r (by omega) _ _ (by omega)]
/-! ## mending: the class -/
theorem c_X3_changesWith (d : Nat) {μ : jM} {p : Nat} {m : List Nat} (h : MI μ p m) (s x : Nat) (hs : s < 1024) (hx : x < 10) (hor : s ||| 2 ^ x < 1024) (v : Int) (hv : μ 48 ((11 * (s ||| 2 ^ x) + x : Nat) : Int) = v) (hb : 0 ≤ v ∧ v ≤ 1000) : CL (d + 2) 51 [jR 47, jI s, jI x, jR p] μ = rI (v + dch m s x) μ := by
  have h2x := p2_le (show x ≤ 10 by omega)
  have hpc := pc_le (s := s) (n := 10) (by omega) (by decide)
  rw [e_X3_changesWith, c_bc _ _ s (by omega), bI_r, cd_t (isM_f h.1).1, c_X4_at _ h (pc s) (by omega), bI_r, shl_1 x (by omega), or_nn _ _ (by omega) (by omega), c_X3_value _ μ _ x hor (by omega), bI_r, bI_r, hv]
  unfold dch
  by_cases hz : m.getD (pc s) 10 = x
  · have e1 : lno (m.getD (pc s) 10) = (x : Int) := by
      rw [hz]
      exact if_neg (by omega)
    rw [if_pos e1, if_pos hz, w_id (by omega) (by omega)]
  · have e1 : ¬ lno (m.getD (pc s) 10) = (x : Int) := by
      unfold lno
      split <;> omega
    rw [if_neg e1, if_neg hz, w_id (by omega) (by omega)]
theorem c_X3_fewestChanges (d : Nat) {μ : jM} {p : Nat} {m : List Nat} (h : MI μ p m) (s b : Nat) (hs : s < 1024) (hb : b < 1024) (f : Nat → Int) (hf : ∀ x, x < 10 → b.testBit x = true → s ||| 2 ^ x < 1024 ∧ μ 48 ((11 * (s ||| 2 ^ x) + x : Nat) : Int) = f x ∧ 0 ≤ f x ∧ f x ≤ 1000) : CL (d + 3) 50 [jR 47, jI s, jI b, jR p] μ = rI (if pc s < m.length then mnI 100 (fun x => b.testBit x) (fun x => f x + dch m s x) 10 else 0) μ := by
  rw [e_X3_fewestChanges, c_bc _ _ s (by omega), bI_r, cd_t (isM_f h.1).1, c_X4_size _ h, bI_r]
  by_cases hp : pc s < m.length
  · rw [if_pos (by omega), if_pos hp]
    have := lp_0 (fun x : Nat => EV (d + 2) T_X3_fewestChanges 1 [some (jR 47), some (jI s), some (jI b), some (jR p), some (jI (mnI 100 (fun x => b.testBit x) (fun x => f x + dch m s x) x)), some (jI x)] [] μ) 10 (fun x hx => by
      have es : mnI 100 (fun x => b.testBit x) (fun x => f x + dch m s x) (x + 1) = if b.testBit x then min (mnI 100 (fun x => b.testBit x) (fun x => f x + dch m s x) x) (f x + dch m s x) else mnI 100 (fun x => b.testBit x) (fun x => f x + dch m s x) x := rfl
      rw [e_X3_fewestChanges_1, if_pos (by omega), tb_1 _ x (by omega) (by omega), w_s x (by omega), es]
      cases hbx : b.testBit x with
      | false => exact if_neg (by decide)
      | true =>
        obtain ⟨g1, g2, g3⟩ := hf x hx hbx
        rw [if_pos rfl, if_pos rfl, if_pos rfl, c_X3_changesWith _ h s x hs hx g1 _ g2 g3, bI_r])
    refine Eq.trans this ?_
    show EV (d + 2) T_X3_fewestChanges 1 [some (jR 47), some (jI s), some (jI b), some (jR p), some (jI (mnI 100 (fun x => b.testBit x) (fun x => f x + dch m s x) 10)), some (jI (10 : Nat))] [] μ = _
    rw [e_X3_fewestChanges_1, if_neg (by decide)]
  · rw [if_neg (by omega), if_neg hp]
abbrev rA (k : Kt) (w : Lw) : Nat → Nat → Bool := rr k w (fun _ _ => true) 0 10
theorem c_X3_tellMended_1 (d : Nat) {k : Kt} {w : Lw} {p : Nat} {m : List Nat} (hk : Kok k) : ∀ (r s l : Nat) (μ : jM) (rs : List Int), MI μ p m → SP μ k w (fun _ _ => true) 0 10 → rA k w s l = true → pc s + r = m.length → (∀ t n, rA k w t n = true → pc t ≤ m.length → μ 48 ((11 * t + n : Nat) : Int) = mcI 100 k w m (m.length - pc t) t n) → mcI 100 k w m r s l < 100 → RI μ rs → rs.length = pc s → ∃ μ', EV (d + 3) T_X3_tellMended 1 [some (jR 47), some (jR 29), some (jR p), some (jR 50), some (jI s), some (jI l), some (jI (pc s : Nat)), none, none] [] μ = rV μ' ∧ (∀ q, q ≠ 50 → q ≠ 51 → μ' q = μ q) ∧ RI μ' (rs ++ mtl 100 k w m r s l)
  | 0, s, l, μ, rs, hm, _, _, hp, _, _, hr, _ => ⟨μ, by
    rw [e_X3_tellMended_1, cd_t (isM_f hm.1).1, c_X4_size _ hm, bI_r, if_neg (by omega)], fun _ _ _ => rfl, by
    show RI μ (rs ++ [])
    rw [List.append_nil]
    exact hr⟩
  | r + 1, s, l, μ, rs, hm, hs, hR, hp, hT, hv, hr, hl => by
    have h10 := hk.1
    have hS0 := Sok_0 k
    have hst := rr_st hk hS0 hR
    have hS := (rr_in hk hS0 hR).1
    have h2k := p2_le h10
    have hnl := nxt_lt hk w (fun _ _ => true) 0 s l
    have htb := nxt_tb hk (A := fun _ _ => true) (w := w) hS hst.2.2
    have hpc := pc_le hst.1 (by omega)
    obtain ⟨n1, n2, n3⟩ := mnx_S hv
    have hmp : isM p := hm.1
    have hp51 : p = 23 ∨ 52 ≤ p := by rcases hmp with z | z | z | z <;> omega
    let x := mnx 100 k w m r s l
    have hx : x < 10 := n1
    have hgo := rr_go hk hS0 hR n2
    have hgs := (rr_st hk hS0 hgo.1).1
    have tv : ∀ y, SS k w (fun _ _ => true) 0 s l y = true → μ 48 ((11 * (s ||| 2 ^ y) + y : Nat) : Int) = mcI 100 k w m r (s ||| 2 ^ y) y ∧ s ||| 2 ^ y < 1024 := fun y hy => by
      have g := rr_go hk hS0 hR hy
      have e : m.length - pc (s ||| 2 ^ y) = r := by omega
      rw [hT _ _ g.1 (by omega), e]
      have := (rr_st hk hS0 g.1).1
      exact ⟨rfl, by omega⟩
    have tl : μ 48 ((11 * s + l : Nat) : Int) = mcI 100 k w m (r + 1) s l := by
      rw [hT _ _ hR (by omega), show m.length - pc s = r + 1 by omega]
    have key := lp_fs (fun y : Nat => EV (d + 3) T_X3_tellMended 2 [some (jR 47), some (jR 29), some (jR p), some (jR 50), some (jI s), some (jI l), some (jI (pc s : Nat)), some (jI (opn k w (fun _ _ => true) 0 s &&& nra k w l : Nat)), some (jI y)] [] μ) (fun y => SS k w (fun _ _ => true) 0 s l y && decide (mcI 100 k w m r (s ||| 2 ^ y) y + dch m s y = mcI 100 k w m (r + 1) s l)) 10 (fun y hy hP _ => by
      rw [e_X3_tellMended_2, if_pos (by omega), tb_1 _ y (by omega) (by omega), htb y, w_s y (by omega)]
      cases hz : SS k w (fun _ _ => true) 0 s l y with
      | false => rw [if_pos (by rfl)]
      | true =>
        rw [hz, Bool.true_and, decide_eq_false_iff_not] at hP
        obtain ⟨t1, t2⟩ := tv y hz
        have hb := mcI_b (F := 100) (by decide) k w m r (s ||| 2 ^ y) y
        rw [if_neg (by decide), c_X3_changesWith _ hm s y (by omega) hy t2 _ t1 (by omega), bI_r, c_X3_value _ μ s l (by omega) hst.2.1, bI_r, tl, if_neg hP])
    have h2x := p2_le (show x ≤ 10 by omega)
    obtain ⟨t1, t2⟩ := tv x n2
    have hb := mcI_b (F := 100) (by decide) k w m r (s ||| 2 ^ x) x
    have hd := dch_b m s x
    have g2 : pc (s ||| 2 ^ x) = pc s + 1 := hgo.2
    have n3' : mcI 100 k w m r (s ||| 2 ^ x) x + dch m s x = mcI 100 k w m (r + 1) s l := n3
    obtain ⟨μ1, e1, f1, r1⟩ := c_X7_add (d + 2) hr (x : Nat) (by omega)
    obtain ⟨μ2, e2, f2, r2⟩ := c_X3_tellMended_1 d hk r (s ||| 2 ^ x) x μ1 (rs ++ [(x : Int)]) (MI_cg hm (f1 p (by omega) (by omega)) (f1 (p + 1) (by omega) (by omega))) (SP_cg hs (fun q _ _ => f1 q (by omega) (by omega))) hgo.1 (by omega) (fun t n ht hpt => by rw [f1 48 (by decide) (by decide)]; exact hT t n ht hpt) (by omega) r1 (by
      rw [List.length_append, hl, hgo.2]
      rfl)
    refine ⟨μ2, ?_, fun q a b => (f2 q a b).trans (f1 q a b), ?_⟩
    · rw [e_X3_tellMended_1, cd_t (isM_f hm.1).1, c_X4_size _ hm, bI_r, if_pos (by omega), c_open _ hs s hst.1, bI_r, c_near _ hs l (by rcases hS.2 with z | z; exact Or.inl z.1; exact Or.inr z.1), bI_r, and_nn _ _ (by have := opn_lt hk w (fun _ _ => true) 0 s; omega) (by have := nra_lt hk w l; omega)]
      refine Eq.trans key ?_
      show EV (d + 3) T_X3_tellMended 2 [some (jR 47), some (jR 29), some (jR p), some (jR 50), some (jI s), some (jI l), some (jI (pc s : Nat)), some (jI (opn k w (fun _ _ => true) 0 s &&& nra k w l : Nat)), some (jI (x : Nat))] [] μ = _
      rw [e_X3_tellMended_2, if_pos (by omega), tb_1 _ x (by omega) (by omega), htb x, show SS k w (fun _ _ => true) 0 s l x = true from n2, if_neg (by decide), c_X3_changesWith _ hm s x (by omega) hx t2 _ t1 (by omega), bI_r, c_X3_value _ μ s l (by omega) hst.2.1, bI_r, tl, if_pos (show mcI 100 k w m r (s ||| 2 ^ x) x + dch m s x = mcI 100 k w m (r + 1) s l from n3), e1, bV_r, shl_1 x (by omega), or_nn _ _ (by omega) (by omega), w_s (pc s) (by omega), ← hgo.2]
      exact e2
    · rw [List.append_assoc] at r2
      exact r2
theorem rA_nxt (k : Kt) (w : Lw) : rA k w 0 10 = true := by
  show rr k w (fun _ _ => true) 0 10 0 10 = true
  rw [rr_0]
  rfl
theorem c_X3_mending (d : Nat) {μ : jM} {k : Kt} {w : Lw} {p : Nat} {m : List Nat} (h : SP μ k w (fun _ _ => true) 0 10) (hm : MI μ p m) (hml : m.length ≤ 10) {ro : List Int} (hro : RI μ ro) : ∃ μ', CL (d + 5) 49 [jR 47, jR 29, jR p, jR 50] μ = rI (if mcI 100 k w m m.length 0 10 < 100 then mcI 100 k w m m.length 0 10 else -2) μ' ∧ (∀ q, q ≠ 48 → q ≠ 50 → q ≠ 51 → μ' q = μ q) ∧ RI μ' (if mcI 100 k w m m.length 0 10 < 100 then mtl 100 k w m m.length 0 10 else ro) := by
  obtain ⟨hk, h10, h0, hN⟩ := SP_k h
  have hS0 := h.2.2.1
  have hmp : isM p := hm.1
  have hp51 : p = 23 ∨ 52 ≤ p := by rcases hmp with z | z | z | z <;> omega
  let V : Nat → Nat → Int := fun s l => mcI 100 k w m (m.length - pc s) s l
  let J : Nat → Nat → jM → Prop := fun a j μ1 => (∀ q, q ≠ 48 → μ1 q = μ q) ∧ ∀ s l, rA k w s l = true → a < s ∨ s = a ∧ l < j → μ1 48 ((11 * s + l : Nat) : Int) = V s l
  have pics : ∀ μ1, (∀ q, q ≠ 48 → μ1 q = μ q) → SP μ1 k w (fun _ _ => true) 0 10 ∧ MI μ1 p m := fun μ1 f => ⟨SP_cg h (fun q _ _ => f q (by omega)), MI_cg hm (f p (by omega)) (f (p + 1) (by omega))⟩
  have inner : ∀ a, a < 2 ^ kn k → ∀ μ1, J a 0 μ1 → ∃ μ2, EV (d + 4) T_X3_mending 2 [some (jR 47), some (jR 29), some (jR p), some (jR 50), some (jI a), some (jI (opn k w (fun _ _ => true) 0 a : Nat)), some (jI 0)] [] μ1 = EV (d + 4) T_X3_mending 1 [some (jR 47), some (jR 29), some (jR p), some (jR 50), some (jI ((a : Int) - 1)), none, none] [] μ2 ∧ J a 11 μ2 := by
    intro a ha μ1 hJ
    have hop := opn_lt hk w (fun _ _ => true) 0 a
    have hrl := re_lt k w (fun _ _ => true) 0 10 a
    obtain ⟨μ2, e2, j2⟩ := lp_i (fun (j : Nat) (μ1 : jM) => EV (d + 4) T_X3_mending 2 [some (jR 47), some (jR 29), some (jR p), some (jR 50), some (jI a), some (jI (opn k w (fun _ _ => true) 0 a : Nat)), some (jI j)] [] μ1) (fun j μ1 => J a j μ1) 11 (fun j μ1 hj hJ => by
      obtain ⟨s1, m1⟩ := pics μ1 hJ.1
      show ∃ s', EV (d + 4) T_X3_mending 2 _ [] μ1 = _ ∧ _
      rw [e_X3_mending_2, if_pos (by omega), c_ends _ s1 a ha, bI_r, tb_1 _ j (by omega) (by omega), re_tb hj, w_s j (by omega)]
      have stay : rA k w a j = false → J a (j + 1) μ1 := fun hz => ⟨hJ.1, fun s l hr hc => by
        by_cases h1 : s = a ∧ l = j
        · rw [h1.1, h1.2, hz] at hr
          cases hr
        · exact hJ.2 s l hr (by omega)⟩
      cases hr : rA k w a j with
      | false =>
        rw [show rr k w (fun _ _ => true) 0 10 a j = false from hr]
        exact ⟨μ1, if_neg (by decide), stay hr⟩
      | true =>
        rw [show rr k w (fun _ _ => true) 0 10 a j = true from hr]
        have hst := rr_st hk hS0 hr
        have hS := (rr_in hk hS0 hr).1
        have hna := nra_lt hk w j
        have hnl := nxt_lt hk w (fun _ _ => true) 0 a j
        have htb := nxt_tb hk (A := fun _ _ => true) (w := w) hS hst.2.2
        have fc := c_X3_fewestChanges (d + 1) m1 a (opn k w (fun _ _ => true) 0 a &&& nra k w j) (by omega) hnl (fun x => V (a ||| 2 ^ x) x) (fun x hx hb => by
          rw [htb x] at hb
          have g := rr_go hk hS0 hr hb
          have h1 := (rr_st hk hS0 g.1).1
          have h2 := mcI_b (F := 100) (by decide) k w m (m.length - pc (a ||| 2 ^ x)) (a ||| 2 ^ x) x
          exact ⟨by omega, hJ.2 _ _ g.1 (Or.inl (or_gt (SS_i hb).2.2.2)), h2.1, by show mcI 100 k w m (m.length - pc (a ||| 2 ^ x)) (a ||| 2 ^ x) x ≤ 1000; omega⟩)
        have ev : (if pc a < m.length then mnI 100 (fun x => (opn k w (fun _ _ => true) 0 a &&& nra k w j).testBit x) (fun x => V (a ||| 2 ^ x) x + dch m a x) 10 else 0) = V a j := by
          show _ = mcI 100 k w m (m.length - pc a) a j
          by_cases hp : pc a < m.length
          · rw [if_pos hp, show m.length - pc a = (m.length - pc a - 1) + 1 by omega]
            show _ = mnI 100 _ _ 10
            refine mnI_cg (fun x _ => htb x) (fun x _ hb => ?_)
            rw [htb x] at hb
            have g := rr_go hk hS0 hr hb
            show mcI 100 k w m (m.length - pc (a ||| 2 ^ x)) (a ||| 2 ^ x) x + dch m a x = _
            rw [g.2, show m.length - (pc a + 1) = m.length - pc a - 1 by omega]
          · rw [if_neg hp, show m.length - pc a = 0 by omega]
            rfl
        rw [ev] at fc
        rw [if_pos rfl, if_pos rfl, c_near _ s1 j (by rcases hS.2 with z | z; exact Or.inl z.1; exact Or.inr z.1), bI_r, and_nn _ _ (by omega) (by omega), fc, bI_r, c_X3_setValue _ μ1 a j (by omega) (by omega), bV_r]
        exact ⟨_, rfl, fun q hq => (jup_ne hq).trans (hJ.1 q hq), fun s l hr2 hc => by
          have hl := (rr_st hk hS0 hr2).2.1
          rw [tab_up (by omega) hl]
          by_cases h1 : s = a ∧ l = j
          · rw [if_pos h1, h1.1, h1.2]
          · rw [if_neg h1]
            exact hJ.2 s l hr2 (by omega)⟩) μ1 hJ
    refine ⟨μ2, e2.trans ?_, j2⟩
    show EV (d + 4) T_X3_mending 2 _ [] μ2 = _
    rw [e_X3_mending_2, if_neg (by decide), w_id (by omega) (by omega)]
    rfl
  obtain ⟨μ1, e1, i1, i2⟩ := lp_j (fun (i : Nat) (μ1 : jM) => EV (d + 4) T_X3_mending 1 [some (jR 47), some (jR 29), some (jR p), some (jR 50), some (jI ((i : Int) - 1)), none, none] [] μ1) (fun i μ1 => (∀ q, q ≠ 48 → μ1 q = μ q) ∧ ∀ s l, rA k w s l = true → i ≤ s → μ1 48 ((11 * s + l : Nat) : Int) = V s l) (2 ^ kn k) (fun i μ1 hi hI => by
    obtain ⟨s1, m1⟩ := pics μ1 hI.1
    obtain ⟨μ2, e2, j2⟩ := inner i hi μ1 ⟨hI.1, fun s l hr hc => hI.2 s l hr (by omega)⟩
    refine ⟨μ2, Eq.trans ?_ e2, j2.1, fun s l hr hc => j2.2 s l hr (by have := (rr_st hk hS0 hr).2.1; omega)⟩
    show EV (d + 4) T_X3_mending 1 [some (jR 47), some (jR 29), some (jR p), some (jR 50), some (jI (((i + 1 : Nat) : Int) - 1)), none, none] [] μ1 = _
    have e3 : ((i + 1 : Nat) : Int) - 1 = ((i : Nat) : Int) := by omega
    rw [e3, e_X3_mending_1, if_neg (by omega), c_open _ s1 _ hi, bI_r]) μ ⟨fun _ _ => rfl, fun s l hr hc => by have := (rr_st hk hS0 hr).1; omega⟩
  have i1 : ∀ q, q ≠ 48 → μ1 q = μ q := i1
  obtain ⟨s1, m1⟩ := pics μ1 i1
  have hp0 : pc 0 = 0 := rfl
  have v0 : μ1 48 ((11 * 0 + 10 : Nat) : Int) = mcI 100 k w m m.length 0 10 := (i2 0 10 (rA_nxt k w) (Nat.zero_le _))
  have head : CL (d + 5) 49 [jR 47, jR 29, jR p, jR 50] μ = EV (d + 4) T_X3_mending 1 [some (jR 47), some (jR 29), some (jR p), some (jR 50), some (jI (-1)), none, none] [] μ1 := by
    rw [e_X3_mending, c_sets _ h, bI_r, w_id (by omega) (by omega)]
    exact e1
  by_cases hv : mcI 100 k w m m.length 0 10 < 100
  · obtain ⟨μ2, e2, f2, r2⟩ := c_X7_clear (d + 2) (μ := μ1)
    obtain ⟨μ3, e3, f3, r3⟩ := c_X3_tellMended_1 d hk m.length 0 10 μ2 [] (MI_cg m1 (f2 p (by omega) (by omega)) (f2 (p + 1) (by omega) (by omega))) (SP_cg s1 (fun q _ _ => f2 q (by omega) (by omega))) (rA_nxt k w) (by rw [hp0]; omega) (fun t n ht hpt => by rw [f2 48 (by decide) (by decide)]; exact i2 t n ht (Nat.zero_le _)) hv r2 rfl
    refine ⟨μ3, ?_, fun q a b c => (f3 q b c).trans ((f2 q b c).trans (i1 q a)), ?_⟩
    · rw [head, e_X3_mending_1, if_pos (by decide), show (0 : Int) = ((0 : Nat) : Int) from rfl, show (10 : Int) = ((10 : Nat) : Int) from rfl, c_X3_value _ μ1 0 10 (by decide) (by decide), v0, bI_r, if_pos hv, if_pos hv]
      rw [e_X3_tellMended, e2, bV_r]
      have e3' := e3
      rw [show pc 0 = 0 from rfl] at e3'
      rw [show (10 : Int) = ((10 : Nat) : Int) from rfl, show (0 : Int) = ((0 : Nat) : Int) from rfl]
      rw [e3', bV_r]
    · rw [if_pos hv]
      exact r3
  · refine ⟨μ1, ?_, fun q a _ _ => i1 q a, ?_⟩
    · rw [head, e_X3_mending_1, if_pos (by decide), show (0 : Int) = ((0 : Nat) : Int) from rfl, show (10 : Int) = ((10 : Nat) : Int) from rfl, c_X3_value _ μ1 0 10 (by decide) (by decide), v0, bI_r, if_neg hv, if_neg hv]
    · rw [if_neg hv]
      exact RI_cg hro (i1 50 (by decide)) (i1 51 (by decide))
