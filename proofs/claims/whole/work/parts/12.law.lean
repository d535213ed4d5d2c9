/-! ## THE LAW: share, times, heat, stores -/
abbrev Lw : Type := Nat × Nat × Nat × (Nat → Nat)
def lsh (w : Lw) : Nat := w.1
def lti (w : Lw) : Nat := w.2.1
def lhe (w : Lw) : Nat := w.2.2.1
def lst (w : Lw) : Nat → Nat := w.2.2.2
def Lok (w : Lw) : Prop := (1 ≤ lsh w ∧ lsh w ≤ 8) ∧ (1 ≤ lti w ∧ lti w ≤ 9) ∧ lhe w ≤ 2 ∧ ∀ s, s < 8 → lst w s ≤ 99
def isL (p : Nat) : Prop := p = 16 ∨ p = 18 ∨ p = 61 ∨ p = 65
theorem isL_f {p : Nat} (h : isL p) : KD p = 2 ∧ RF p 0 = p + 1 ∧ KD (p + 1) = 20 ∧ LN (p + 1) = 8 := by
  rcases h with rfl | rfl | rfl | rfl <;> decide
def LI (μ : jM) (p : Nat) (w : Lw) : Prop := isL p ∧ Lok w ∧ μ p 1 = (lsh w : Int) ∧ μ p 2 = (lti w : Int) ∧ μ p 3 = (lhe w : Int) ∧ ∀ s : Nat, s < 8 → μ (p + 1) s = (lst w s : Int)
theorem c_X2_share (d : Nat) {μ : jM} {p : Nat} {w : Lw} (h : LI μ p w) : CL (d + 1) 35 [jR p] μ = rI (lsh w : Int) μ := by
  rw [e_X2_share, cd_t (isL_f h.1).1, h.2.2.1]
theorem c_X2_heat (d : Nat) {μ : jM} {p : Nat} {w : Lw} (h : LI μ p w) : CL (d + 1) 36 [jR p] μ = rI (lhe w : Int) μ := by
  rw [e_X2_heat, cd_t (isL_f h.1).1, h.2.2.2.2.1]
/-- in how many DISHES a STUFF can be -/
def lmo (w : Lw) (s : Nat) : Nat := min (lti w) (lst w s)
theorem c_X2_most (d : Nat) {μ : jM} {p : Nat} {w : Lw} (h : LI μ p w) (s : Nat) (hs : s < 8) : CL (d + 1) 37 [jR p, jI s] μ = rI (lmo w s : Int) μ := by
  obtain ⟨h1, h2, h3, h4⟩ := isL_f h.1
  rw [e_X2_most, h2, if_neg (by omega), if_pos (by omega), cd_t h1, cd_t h1, cd_t h3, gd_t (by omega), h.2.2.2.1, h.2.2.2.2.2 s hs]
  unfold lmo
  congr 1
  omega
theorem c_X2_allows (d : Nat) (μ : jM) (x v : Int) : CL (d + 1) 34 [jI x, jI v] μ = rI (if x = 0 ∧ 1 ≤ v ∧ v ≤ 8 ∨ x = 1 ∧ 1 ≤ v ∧ v ≤ 9 ∨ x = 2 ∧ 0 ≤ v ∧ v ≤ 2 then 1 else 0) μ := by
  rw [e_X2_allows]
  by_cases h0 : x = 0
  · subst h0
    by_cases h1 : v < 1
    · simp (disch := omega) only [bI_r, bV_r, bL_r, gd_T, true_or, or_true, cd_t, gd_t, if_pos, if_neg, w_id, if_true, if_false]
    · by_cases h2 : 8 < v
      · simp (disch := omega) only [bI_r, bV_r, bL_r, gd_T, true_or, or_true, cd_t, gd_t, if_pos, if_neg, w_id, if_true, if_false]
      · rw [if_pos (show (0 : Int) = 0 ∧ 1 ≤ v ∧ v ≤ 8 ∨ (0 : Int) = 1 ∧ 1 ≤ v ∧ v ≤ 9 ∨ (0 : Int) = 2 ∧ 0 ≤ v ∧ v ≤ 2 by omega)]
        simp (disch := omega) only [bI_r, bV_r, bL_r, gd_T, true_or, or_true, cd_t, gd_t, if_pos, if_neg, w_id, if_true, if_false]
  · by_cases h1 : x = 1
    · subst h1
      by_cases h1 : v < 1
      · simp (disch := omega) only [bI_r, bV_r, bL_r, gd_T, true_or, or_true, cd_t, gd_t, if_pos, if_neg, w_id, if_true, if_false]
      · by_cases h2 : 9 < v
        · simp (disch := omega) only [bI_r, bV_r, bL_r, gd_T, true_or, or_true, cd_t, gd_t, if_pos, if_neg, w_id, if_true, if_false]
        · rw [if_pos (show (1 : Int) = 0 ∧ 1 ≤ v ∧ v ≤ 8 ∨ (1 : Int) = 1 ∧ 1 ≤ v ∧ v ≤ 9 ∨ (1 : Int) = 2 ∧ 0 ≤ v ∧ v ≤ 2 by omega)]
          simp (disch := omega) only [bI_r, bV_r, bL_r, gd_T, true_or, or_true, cd_t, gd_t, if_pos, if_neg, w_id, if_true, if_false]
    · by_cases h2 : x = 2
      · subst h2
        by_cases h1 : v < 0
        · simp (disch := omega) only [bI_r, bV_r, bL_r, gd_T, true_or, or_true, cd_t, gd_t, if_pos, if_neg, w_id, if_true, if_false]
        · by_cases h2 : 2 < v
          · simp (disch := omega) only [bI_r, bV_r, bL_r, gd_T, true_or, or_true, cd_t, gd_t, if_pos, if_neg, w_id, if_true, if_false]
          · rw [if_pos (show (2 : Int) = 0 ∧ 1 ≤ v ∧ v ≤ 8 ∨ (2 : Int) = 1 ∧ 1 ≤ v ∧ v ≤ 9 ∨ (2 : Int) = 2 ∧ 0 ≤ v ∧ v ≤ 2 by omega)]
            simp (disch := omega) only [bI_r, bV_r, bL_r, gd_T, true_or, or_true, cd_t, gd_t, if_pos, if_neg, w_id, if_true, if_false]
      · simp (disch := omega) only [bI_r, bV_r, bL_r, gd_T, true_or, or_true, cd_t, gd_t, if_pos, if_neg, w_id, if_true, if_false]
theorem c_X2_restock (d : Nat) {μ : jM} {p : Nat} {w : Lw} (h : LI μ p w) (s : Nat) (hs : s < 8) (v : Int) : CL (d + 1) 39 [jR p, jI s, jI v] μ = rI (lst w s : Int) (jup μ (p + 1) s v) := by
  obtain ⟨h1, h2, h3, h4⟩ := isL_f h.1
  rw [e_X2_restock, h2, if_neg (by omega), if_pos (by omega), cd_t h1, cd_t h3, gd_t (by omega), cd_t h1, cd_t h3, gd_t (by omega), h.2.2.2.2.2 s hs]
theorem LI_restock {μ : jM} {p : Nat} {w : Lw} (h : LI μ p w) (s v : Nat) (hs : s < 8) (hv : v ≤ 99) : LI (jup μ (p + 1) s v) p (lsh w, lti w, lhe w, fun x => if x = s then v else lst w x) := by
  refine ⟨h.1, ⟨h.2.1.1, h.2.1.2.1, h.2.1.2.2.1, fun x hx => ?_⟩, ?_, ?_, ?_, fun x hx => ?_⟩
  · show (if x = s then v else lst w x) ≤ 99
    split
    · exact hv
    · exact h.2.1.2.2.2 x hx
  · rw [jup_n (by omega)]; exact h.2.2.1
  · rw [jup_n (by omega)]; exact h.2.2.2.1
  · rw [jup_n (by omega)]; exact h.2.2.2.2.1
  · show _ = ((if x = s then v else lst w x : Nat) : Int)
    by_cases hx2 : x = s
    · subst hx2
      rw [jup_r, if_pos rfl]
    · rw [jup_m (by omega), if_neg hx2]
      exact h.2.2.2.2.2 x hx
/-- the law's heat against a DISH; l is the last one, 10: none -/
def lag (k : Kt) (w : Lw) (s l x : Nat) : Bool := if lhe w = 1 then !(khot k).testBit x && (s &&& khot k) != 0 else lhe w == 2 && l != 10 && ((khot k).testBit l == (khot k).testBit x)
def lno (l : Nat) : Int := if l = 10 then -1 else l
theorem c_X2_isAgainstHeat (d : Nat) {μ : jM} {p : Nat} {w : Lw} (h : LI μ p w) (k : Kt) (hk : Kok k) (s l x : Nat) (hs : s < 1024) (hl : l ≤ 10) (hx : x < 10) : CL (d + 1) 43 [jR p, jI (khot k), jI s, jI (lno l), jI x] μ = rI (if lag k w s l x then 1 else 0) μ := by
  obtain ⟨h1, h2, h3, h4⟩ := isL_f h.1
  have hb : khot k < 2 ^ 10 := bm_lt' _ hk.1
  have hw := h.2.1.2.2.1
  rw [e_X2_isAgainstHeat, cd_t h1, cd_t h1, h.2.2.2.2.1, tb_1 _ x (by omega) (by omega), and_nn _ _ (by omega) (by omega)]
  unfold lag
  by_cases he : lhe w = 1
  · rw [if_pos (by omega), if_pos he]
    cases (khot k).testBit x with
    | true => rfl
    | false =>
      refine (if_pos rfl).trans ?_
      by_cases hz : s &&& khot k = 0
      · rw [hz]
        rfl
      · rw [if_neg (by omega)]
        simp [hz, gd]
  · rw [if_neg (by omega), if_neg he]
    by_cases he2 : lhe w = 2
    · rw [if_pos (by omega), he2]
      unfold lno
      by_cases hl2 : l = 10
      · rw [if_pos (by rw [if_pos hl2]), hl2]
        rfl
      · rw [if_neg hl2, if_neg (by omega), tb_1 _ l (by omega) (by omega)]
        have hl3 : (l != 10) = true := by simpa using hl2
        rw [hl3]
        cases (khot k).testBit x <;> cases (khot k).testBit l <;> rfl
    · rw [if_neg (by omega)]
      have h5 : (lhe w == 2) = false := by simpa using he2
      rw [h5]
      rfl
/-- in how many DISHES of a set with one more a STUFF is -/
def kus (k : Kt) (s x u : Nat) : Nat := pc (khs k u &&& (s ||| 2 ^ x))
/-- why a DISH can't come behind others -/
def rfs (k : Kt) (w : Lw) (s l x : Nat) : Int := if s.testBit x then -2 else if l ≠ 10 ∧ (ksh k (lsh w) l).testBit x = false then -3 else if lag k w s l x then -4 else if anb (fun u => decide (lti w < kus k s x u)) 8 then -5 else if anb (fun u => decide (lst w u < kus k s x u)) 8 then -6 else 0
theorem c_X2_refusal_1 (d : Nat) {μ : jM} {p : Nat} {w : Lw} {k : Kt} (h : LI μ p w) (hk : KI μ k) (s x : Nat) (hs : s < 1024) (hx : x < 10) : EV (d + 3) T_X2_refusal 1 [some (jR p), some (jR 3), some (jI s), none, some (jI x), some (jI 0), some (jI 0), none] [] μ = rI (if anb (fun u => decide (lti w < kus k s x u)) 8 then -5 else if anb (fun u => decide (lst w u < kus k s x u)) 8 then -6 else 0) μ := by
  obtain ⟨h1, h2, h3, h4⟩ := isL_f h.1
  have h2x := p2_le (show x ≤ 9 by omega)
  have hor : s ||| 2 ^ x < 1024 := Nat.or_lt_two_pow (n := 10) hs (by omega)
  have ku : ∀ u, u < 8 → khs k u &&& (s ||| 2 ^ x) < 1024 := fun u _ => Nat.lt_of_le_of_lt Nat.and_le_right hor
  have step : ∀ (u : Nat) (a : Int), u < 8 → EV (d + 3) T_X2_refusal 1 [some (jR p), some (jR 3), some (jI s), none, some (jI x), some (jI a), some (jI u), none] [] μ = if lti w < kus k s x u then rI (-5) μ else EV (d + 3) T_X2_refusal 1 [some (jR p), some (jR 3), some (jI s), none, some (jI x), some (jI (jor a (if lst w u < kus k s x u then 1 else 0))), some (jI (u + 1 : Nat)), none] [] μ := by
    intro u a hu
    have hst := h.2.2.2.2.2 u hu
    have hb : khs k u < 2 ^ 10 := bm_lt' _ hk.1.1
    rw [e_X2_refusal_1, if_pos (by omega), c_X1_holdersOf _ hk u hu, bI_r, shl_1 x (by omega), or_nn _ _ (by omega) (by omega), and_nn _ _ (by omega) (by omega), c_bc _ _ _ (by have := ku u hu; omega), bI_r, cd_t h1, h.2.2.2.1, h2, cd_t h1, cd_t h3, gd_t (by omega), hst, w_s _ (by omega)]
    show (if (lti w : Int) < (kus k s x u : Nat) then _ else if (lst w u : Int) < (kus k s x u : Nat) then _ else _) = _
    by_cases hz : lti w < kus k s x u
    · rw [if_pos (by omega), if_pos hz]
    · rw [if_neg (by omega), if_neg hz]
      by_cases hz2 : lst w u < kus k s x u
      · rw [if_pos (by omega), if_pos hz2]
      · rw [if_neg (by omega), if_neg hz2]
  refine (lp_fs (fun u : Nat => EV (d + 3) T_X2_refusal 1 [some (jR p), some (jR 3), some (jI s), none, some (jI x), some (jI (if anb (fun u => decide (lst w u < kus k s x u)) u then 1 else 0)), some (jI u), none] [] μ) (fun u => decide (lti w < kus k s x u)) 8 (fun u hu hp _ => ?_)).trans ?_
  · rw [step u _ hu, if_neg (by simpa using hp)]
    congr 1
    show _ = [_, _, _, _, _, some (jI (if (anb (fun u => decide (lst w u < kus k s x u)) u || decide (lst w u < kus k s x u)) then 1 else 0)), _, _]
    by_cases hz : lst w u < kus k s x u
    · rw [if_pos hz]
      cases anb (fun u => decide (lst w u < kus k s x u)) u <;> simp [hz] <;> rfl
    · rw [if_neg hz]
      cases anb (fun u => decide (lst w u < kus k s x u)) u <;> simp [hz] <;> rfl
  · obtain ⟨f1, f2, f3⟩ := fs_spec (fun u => decide (lti w < kus k s x u)) 8
    cases ha : anb (fun u => decide (lti w < kus k s x u)) 8 with
    | true =>
      have hlt := (fs_anb _ _).mpr ha
      rw [step _ _ hlt, if_pos (by simpa using f3 hlt)]
      rfl
    | false =>
      have hnlt : ¬ fs (fun u => decide (lti w < kus k s x u)) 8 < 8 := fun z => by
        rw [(fs_anb _ _).mp z] at ha
        cases ha
      have e8 : fs (fun u => decide (lti w < kus k s x u)) 8 = 8 := by omega
      rw [e8, e_X2_refusal_1, if_neg (by decide)]
      cases anb (fun u => decide (lst w u < kus k s x u)) 8 <;> rfl
theorem c_X2_refusal (d : Nat) {μ : jM} {p : Nat} {w : Lw} {k : Kt} (h : LI μ p w) (hk : KI μ k) (s l x : Nat) (hs : s < 1024) (hl : l = 10 ∨ l < kn k) (hx : x < kn k) : CL (d + 4) 42 [jR p, jR 3, jI s, jI (lno l), jI x] μ = rI (rfs k w s l x) μ := by
  obtain ⟨h1, h2, h3, h4⟩ := isL_f h.1
  have h10 := hk.1.1
  have hw := h.2.1.1
  have fin := c_X2_refusal_1 d h hk s x hs (by omega)
  rw [e_X2_refusal, tb_1 s x (by omega) (by omega)]
  simp only [cd_t h1, h.2.2.1]
  unfold rfs
  cases s.testBit x with
  | true => rfl
  | false =>
    refine (if_neg (by decide)).trans (Eq.trans ?_ (congrArg (fun z => rI z μ) (if_neg (by decide)).symm))
    have heat : ∀ d, CL (d + 1) 43 [jR p, jI (khot k), jI s, jI (lno l), jI x] μ = rI (if lag k w s l x then 1 else 0) μ := fun d => c_X2_isAgainstHeat d h k hk.1 s l x hs (by omega) (by omega)
    by_cases hl2 : l = 10
    · have e : lno l = -1 := if_pos hl2
      refine (if_pos e).trans (Eq.trans ?_ (congrArg (fun z => rI z μ) (if_neg (fun z => z.1 hl2)).symm))
      rw [c_X1_hotDishes _ hk, bI_r, heat, bI_r]
      cases lag k w s l x with
      | true => rfl
      | false => exact fin
    · have e : lno l = (l : Int) := if_neg hl2
      refine (if_neg (by omega)).trans ?_
      rw [e, c_X1_sharing _ hk l _ (by omega) (by omega), bI_r]
      have hb : ksh k (lsh w) l < 2 ^ 10 := bm_lt' _ h10
      rw [tb_1 _ x (by omega) (by omega)]
      cases hz : (ksh k (lsh w) l).testBit x with
      | false =>
        refine (if_pos rfl).trans (congrArg (fun z => rI z μ) (if_pos ⟨hl2, rfl⟩).symm)
      | true =>
        refine (if_neg (by decide)).trans (Eq.trans ?_ (congrArg (fun z => rI z μ) (if_neg (fun z => by cases z.2)).symm))
        rw [c_X1_hotDishes _ hk, bI_r, ← e, heat, bI_r]
        cases lag k w s l x with
        | true => rfl
        | false => exact fin
