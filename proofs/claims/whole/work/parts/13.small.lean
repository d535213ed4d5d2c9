/-! ## frames -/
theorem KI_cg {μ μ' : jM} {k : Kt} (h : KI μ k) (e : ∀ q, 3 ≤ q → q ≤ 10 → μ' q = μ q) : KI μ' k := by
  obtain ⟨h1, h2, h3, h4, h5, h6⟩ := h
  refine ⟨h1, by rw [e 3 (by decide) (by decide)]; exact h2, by rw [e 3 (by decide) (by decide)]; exact h3, fun d hd => ?_, fun g hg => ?_, fun s hs => ?_⟩
  · rw [e 4 (by decide) (by decide), e 5 (by decide) (by decide), e 6 (by decide) (by decide), e 7 (by decide) (by decide)]
    exact h4 d hd
  · rw [e 8 (by decide) (by decide), e 9 (by decide) (by decide)]
    exact h5 g hg
  · rw [e 10 (by decide) (by decide)]
    exact h6 s hs
theorem LI_cg {μ μ' : jM} {p : Nat} {w : Lw} (h : LI μ p w) (e1 : μ' p = μ p) (e2 : μ' (p + 1) = μ (p + 1)) : LI μ' p w := by
  obtain ⟨h1, h2, h3, h4, h5, h6⟩ := h
  exact ⟨h1, h2, by rw [e1]; exact h3, by rw [e1]; exact h4, by rw [e1]; exact h5, fun s hs => by rw [e2]; exact h6 s hs⟩
/-! ## the law's writes -/
def lput (w : Lw) (x v : Nat) : Lw := if x = 0 then (v, lti w, lhe w, lst w) else if x = 1 then (lsh w, v, lhe w, lst w) else (lsh w, lti w, v, lst w)
def lget (w : Lw) (x : Nat) : Nat := if x = 0 then lsh w else if x = 1 then lti w else lhe w
theorem c_X2_change (d : Nat) {μ : jM} {p : Nat} {w : Lw} (h : LI μ p w) (x v : Nat) (hx : x = 0 ∧ 1 ≤ v ∧ v ≤ 8 ∨ x = 1 ∧ 1 ≤ v ∧ v ≤ 9 ∨ x = 2 ∧ v ≤ 2) : ∃ μ', CL (d + 1) 38 [jR p, jI x, jI v] μ = rI (lget w x : Int) μ' ∧ (∀ q, q ≠ p → μ' q = μ q) ∧ LI μ' p (lput w x v) := by
  obtain ⟨h1, h2, h3, h4⟩ := isL_f h.1
  obtain ⟨g1, g2, g3, g4, g5, g6⟩ := h
  have fr : ∀ (a b c : Int) q, q ≠ p → jup (jup (jup μ p 1 a) p 2 b) p 3 c q = μ q := fun a b c q hq => by rw [jup_ne hq, jup_ne hq, jup_ne hq]
  have li : ∀ (a b c : Nat), (1 ≤ a ∧ a ≤ 8) → (1 ≤ b ∧ b ≤ 9) → c ≤ 2 → LI (jup (jup (jup μ p 1 a) p 2 b) p 3 c) p (a, b, c, lst w) := fun a b c ha hb hc => ⟨g1, ⟨ha, hb, hc, g2.2.2.2⟩, by simp (disch := omega) only [jup_r, jup_m, jup_n]; rfl, by simp (disch := omega) only [jup_r, jup_m, jup_n]; rfl, by simp (disch := omega) only [jup_r, jup_m, jup_n]; rfl, fun s hs => by simp (disch := omega) only [jup_r, jup_m, jup_n]; exact g6 s hs⟩
  rw [e_X2_change]
  rcases hx with ⟨rfl, hv⟩ | ⟨rfl, hv⟩ | ⟨rfl, hv⟩
  · refine ⟨jup (jup (jup μ p 1 v) p 2 (lti w)) p 3 (lhe w), ?_, fr _ _ _, li v (lti w) (lhe w) hv g2.2.1 g2.2.2.1⟩
    simp only [cd_t h1]
    simp (disch := omega) only [bI_r, bV_r, bL_r, gd_T, true_or, or_true, cd_t, gd_t, if_pos, if_neg, w_id, if_true, if_false]
    simp (disch := omega) only [jup_r, jup_m, jup_n]
    rw [g3, g4, g5]
    rfl
  · refine ⟨jup (jup (jup μ p 1 (lsh w)) p 2 v) p 3 (lhe w), ?_, fr _ _ _, li (lsh w) v (lhe w) g2.1 hv g2.2.2.1⟩
    simp only [cd_t h1]
    simp (disch := omega) only [bI_r, bV_r, bL_r, gd_T, true_or, or_true, cd_t, gd_t, if_pos, if_neg, w_id, if_true, if_false]
    simp (disch := omega) only [jup_r, jup_m, jup_n]
    rw [g3, g4, g5]
    rfl
  · refine ⟨jup (jup (jup μ p 1 (lsh w)) p 2 (lti w)) p 3 v, ?_, fr _ _ _, li (lsh w) (lti w) v g2.1 g2.2.1 hv⟩
    simp only [cd_t h1]
    simp (disch := omega) only [bI_r, bV_r, bL_r, gd_T, true_or, or_true, cd_t, gd_t, if_pos, if_neg, w_id, if_true, if_false]
    simp (disch := omega) only [jup_r, jup_m, jup_n]
    rw [g3, g4, g5]
    rfl
theorem c_X2_copy (d : Nat) {μ : jM} {p q : Nat} {w w2 : Lw} (h : LI μ q w) (hp : isL p) (hne : p ≠ q) : ∃ μ', CL (d + 1) 40 [jR p, jR q] μ = rV μ' ∧ (∀ r, r ≠ p → r ≠ p + 1 → μ' r = μ r) ∧ LI μ' p w := by
  obtain ⟨h1, h2, h3, h4⟩ := isL_f h.1
  obtain ⟨i1, i2, i3, i4⟩ := isL_f hp
  obtain ⟨g1, g2, g3, g4, g5, g6⟩ := h
  have n1 : q ≠ p + 1 := by rcases hp with rfl | rfl | rfl | rfl <;> rcases g1 with rfl | rfl | rfl | rfl <;> decide
  have n2 : q + 1 ≠ p := by rcases hp with rfl | rfl | rfl | rfl <;> rcases g1 with rfl | rfl | rfl | rfl <;> decide
  rw [e_X2_copy]
  simp only [cd_t h1, cd_t i1, h2, i2, cd_a h3 i3, h4, i4]
  rw [gd_t (by omega)]
  refine ⟨_, rfl, fun r r1 r2 => ?_, hp, g2, ?_, ?_, ?_, fun s hs => ?_⟩
  · rw [jfill_ne r2, jup_ne r1, jup_ne r1, jup_ne r1]
  · rw [jfill_ne (by omega)]; simp (disch := omega) only [jup_r, jup_m, jup_n]; exact g3
  · rw [jfill_ne (by omega)]; simp (disch := omega) only [jup_r, jup_m, jup_n]; exact g4
  · rw [jfill_ne (by omega)]; simp (disch := omega) only [jup_r, jup_m, jup_n]; exact g5
  · rw [jfill_eq]
    show (if 0 ≤ (s : Int) ∧ (s : Int) < 0 + 8 then _ else _) = _
    rw [if_pos (by omega)]
    simp (disch := omega) only [jup_r, jup_m, jup_n]
    rw [show (0 : Int) + ((s : Int) - 0) = s by omega]
    exact g6 s hs
/-- how many DISHES of a set hold a STUFF -/
def kin (k : Kt) (s u : Nat) : Nat := pc (khs k u &&& s)
theorem c_X2_useUp (d : Nat) {μ : jM} {p : Nat} {w : Lw} {k : Kt} (h : LI μ p w) (hk : KI μ k) (s : Nat) (hs : s < 1024) : ∃ μ', CL (d + 2) 41 [jR p, jR 3, jI s] μ = rV μ' ∧ (∀ r, r ≠ p + 1 → μ' r = μ r) ∧ LI μ' p (lsh w, lti w, lhe w, fun u => lst w u - kin k s u) := by
  obtain ⟨h1, h2, h3, h4⟩ := isL_f h.1
  obtain ⟨g1, g2, g3, g4, g5, g6⟩ := h
  have hp11 : 11 ≤ p := by rcases g1 with rfl | rfl | rfl | rfl <;> decide
  let F : Nat → jM := fun n => jfill μ (p + 1) (fun j => if 0 ≤ j ∧ j < n then ((lst w j.toNat - kin k s j.toNat : Nat) : Int) else μ (p + 1) j)
  have hF : ∀ n r, r ≠ p + 1 → F n r = μ r := fun n r hr => jfill_ne hr
  have kF : ∀ n, KI (F n) k := fun n => KI_cg hk (fun q h1 h2 => hF n q (by omega))
  have step : ∀ n : Nat, n < 8 → EV (d + 1) T_X2_useUp 1 [some (jR p), some (jR 3), some (jI s), some (jI n)] [] (F n) = EV (d + 1) T_X2_useUp 1 [some (jR p), some (jR 3), some (jI s), some (jI (n + 1 : Nat))] [] (F (n + 1)) := by
    intro n hn
    have hb : khs k n < 2 ^ 10 := bm_lt' _ hk.1.1
    have ha := Nat.and_le_left (n := khs k n) (m := s)
    have hst : F n (p + 1) (n : Int) = (lst w n : Int) := by
      show jfill μ (p + 1) _ (p + 1) (n : Int) = _
      rw [jfill_eq]
      show (if 0 ≤ (n : Int) ∧ (n : Int) < n then _ else μ (p + 1) n) = _
      rw [if_neg (by omega)]
      exact g6 n hn
    have hl99 := g2.2.2.2 n hn
    have hpc : (pc (khs k n &&& s) : Int) ≤ 12 := by
      have : ∀ z m, pcb m z ≤ m := fun z m => by
        induction m with
        | zero => exact Nat.le_refl 0
        | succ m ih =>
          show pcb m z + _ ≤ m + 1
          split <;> omega
      have := this (khs k n &&& s) 12
      unfold pc
      omega
    rw [e_X2_useUp_1, if_pos (by omega)]
    simp only [cd_t h1, h2, cd_t h3, h4]
    rw [gd_t (by omega), c_X1_holdersOf _ (kF n) n hn, bI_r, and_nn _ _ (by omega) (by omega), c_bc _ _ _ (by omega), bI_r, gd_t (by omega), w_s _ (by omega), hst, w_id (by omega) (by omega)]
    congr 1
    funext r j
    show jup (F n) (p + 1) n _ r j = jfill μ (p + 1) _ r j
    by_cases hr : r = p + 1
    · subst hr
      rw [jup_eq, jfill_eq]
      show (if j = (n : Int) then _ else F n (p + 1) j) = if 0 ≤ j ∧ j < ((n + 1 : Nat) : Int) then _ else _
      by_cases hj : j = (n : Int)
      · rw [if_pos hj, if_pos (by omega), hj, Int.toNat_natCast]
        show max 0 ((lst w n : Int) - (kin k s n : Nat)) = _
        omega
      · rw [if_neg hj]
        show jfill μ (p + 1) _ (p + 1) j = _
        rw [jfill_eq]
        show (if 0 ≤ j ∧ j < (n : Int) then _ else _) = _
        by_cases hj2 : 0 ≤ j ∧ j < (n : Int)
        · rw [if_pos hj2, if_pos (by omega)]
        · rw [if_neg hj2, if_neg (by omega)]
    · rw [jup_n hr, hF n r hr, jfill_ne hr]
  have l0 : F 0 = μ := by
    funext r j
    by_cases hr : r = p + 1
    · subst hr
      show jfill μ (p + 1) _ (p + 1) j = _
      rw [jfill_eq]
      show (if 0 ≤ j ∧ j < ((0 : Nat) : Int) then _ else _) = _
      rw [if_neg (by omega)]
    · rw [hF 0 r hr]
  have run := lp_0 (fun n : Nat => EV (d + 1) T_X2_useUp 1 [some (jR p), some (jR 3), some (jI s), some (jI n)] [] (F n)) 8 step
  rw [l0] at run
  refine ⟨F 8, ?_, hF 8, g1, ⟨g2.1, g2.2.1, g2.2.2.1, fun u hu => ?_⟩, by rw [hF 8 p (by omega)]; exact g3, by rw [hF 8 p (by omega)]; exact g4, by rw [hF 8 p (by omega)]; exact g5, fun u hu => ?_⟩
  · rw [e_X2_useUp]
    refine run.trans ?_
    rw [e_X2_useUp_1, if_neg (by decide)]
  · have := g2.2.2.2 u hu
    show lst w u - kin k s u ≤ 99
    omega
  · show jfill μ (p + 1) _ (p + 1) (u : Int) = _
    rw [jfill_eq]
    show (if 0 ≤ (u : Int) ∧ (u : Int) < ((8 : Nat) : Int) then _ else _) = _
    rw [if_pos (by omega), Int.toNat_natCast]
    rfl
/-! ## lists in cells -/
/-- a row of numbers -/
def LA (g : Int → Int) (r : List Int) : Prop := ∀ i : Nat, i < r.length → g i = r.getD i 0
theorem LA_nil (g : Int → Int) : LA g [] := fun i hi => absurd hi (Nat.not_lt_zero i)
theorem LA_snoc {g : Int → Int} {r : List Int} {v : Int} (h : LA g r) : LA (fun j => if j = (r.length : Int) then v else g j) (r ++ [v]) := by
  intro i hi
  rw [List.length_append, List.length_singleton] at hi
  show (if (i : Int) = (r.length : Int) then v else g i) = _
  by_cases h2 : i = r.length
  · subst h2
    rw [if_pos rfl, List.getD_eq_getElem?_getD, List.getElem?_append_right (Nat.le_refl _), Nat.sub_self]
    rfl
  · rw [if_neg (by omega), h i (by omega), List.getD_eq_getElem?_getD, List.getD_eq_getElem?_getD, List.getElem?_append_left (by omega)]
theorem LA_take {g : Int → Int} {r : List Int} (h : LA g r) (n : Nat) : LA g (r.take n) := by
  intro i hi
  rw [List.length_take] at hi
  rw [h i (by omega), List.getD_eq_getElem?_getD, List.getD_eq_getElem?_getD, List.getElem?_take, if_pos (by omega)]
/-! ## THE ROW -/
def RI (μ : jM) (r : List Int) : Prop := r.length ≤ 20 ∧ μ 50 1 = (r.length : Int) ∧ LA (μ 51) r
theorem RI_cg {μ μ' : jM} {r : List Int} (h : RI μ r) (e1 : μ' 50 = μ 50) (e2 : μ' 51 = μ 51) : RI μ' r := ⟨h.1, by rw [e1]; exact h.2.1, by rw [e2]; exact h.2.2⟩
theorem c_X7_size (d : Nat) {μ : jM} {r : List Int} (h : RI μ r) : CL (d + 1) 102 [jR 50] μ = rI (r.length : Int) μ := by
  rw [e_X7_size, h.2.1]
theorem c_X7_at (d : Nat) {μ : jM} {r : List Int} (h : RI μ r) (i : Nat) (hi : i < r.length) : CL (d + 1) 103 [jR 50, jI i] μ = rI (r.getD i 0) μ := by
  have h1 := h.1
  rw [e_X7_at, h.2.1, if_neg (by omega), if_pos (by omega), gd_t (by omega), h.2.2 i hi]
theorem c_X7_clear (d : Nat) {μ : jM} : ∃ μ', CL (d + 1) 104 [jR 50] μ = rV μ' ∧ (∀ q, q ≠ 50 → q ≠ 51 → μ' q = μ q) ∧ RI μ' [] := by
  rw [e_X7_clear]
  exact ⟨_, rfl, fun q h1 h2 => jup_ne h1, by decide, jup_r _ _ _ _, LA_nil _⟩
theorem c_X7_add (d : Nat) {μ : jM} {r : List Int} (h : RI μ r) (v : Int) (hl : r.length < 20) : ∃ μ', CL (d + 1) 105 [jR 50, jI v] μ = rV μ' ∧ (∀ q, q ≠ 50 → q ≠ 51 → μ' q = μ q) ∧ RI μ' (r ++ [v]) := by
  rw [e_X7_add, h.2.1, if_pos (by omega), gd_t (by omega), jup_n (by decide), h.2.1, w_s _ (by omega)]
  refine ⟨_, rfl, fun q h1 h2 => by rw [jup_ne h1, jup_ne h2], by simp; omega, by rw [jup_r]; simp, ?_⟩
  rw [jup_ne (by decide), jup_eq]
  exact LA_snoc h.2.2
/-! ## THE BANQUET: the DISHES served, in their order -/
def bset : List Nat → Nat
  | [] => 0
  | x :: l => 2 ^ x ||| bset l
theorem bset_tb : ∀ (l : List Nat) (i : Nat), (bset l).testBit i = decide (i ∈ l)
  | [], i => by simp [bset]
  | x :: l, i => by
    unfold bset
    rw [Nat.testBit_or, Nat.testBit_two_pow, bset_tb l i]
    by_cases h : x = i
    · subst h
      simp
    · simp [h, Ne.symm h]
theorem bset_lt {n : Nat} : ∀ {l : List Nat}, (∀ x ∈ l, x < n) → bset l < 2 ^ n
  | [], _ => Nat.two_pow_pos n
  | x :: l, h => Nat.or_lt_two_pow (Nat.pow_lt_pow_right (by decide) (h x List.mem_cons_self)) (bset_lt (fun y hy => h y (List.mem_cons_of_mem _ hy)))
theorem bset_snoc (l : List Nat) (x : Nat) : bset (l ++ [x]) = bset l ||| 2 ^ x := by
  apply Nat.eq_of_testBit_eq
  intro i
  rw [bset_tb, Nat.testBit_or, bset_tb, Nat.testBit_two_pow]
  by_cases h : x = i
  · subst h
    simp
  · simp [h, Ne.symm h]
/-- the last one, 10: none -/
def bla (b : List Nat) : Nat := b.getLastD 10
def isB (p : Nat) : Prop := p = 20 ∨ p = 63 ∨ p = 67
theorem isB_f {p : Nat} (h : isB p) : KD p = 0 ∧ RF p 0 = p + 1 ∧ KD (p + 1) = 20 ∧ LN (p + 1) = 10 := by
  rcases h with rfl | rfl | rfl <;> decide
def LAn (g : Int → Int) (r : List Nat) : Prop := ∀ i : Nat, i < r.length → g i = (r.getD i 0 : Int)
theorem LAn_snoc {g : Int → Int} {r : List Nat} {v : Nat} (h : LAn g r) : LAn (fun j => if j = (r.length : Int) then (v : Int) else g j) (r ++ [v]) := by
  intro i hi
  rw [List.length_append, List.length_singleton] at hi
  show (if (i : Int) = (r.length : Int) then (v : Int) else g i) = _
  by_cases h2 : i = r.length
  · subst h2
    rw [if_pos rfl, List.getD_eq_getElem?_getD, List.getElem?_append_right (Nat.le_refl _), Nat.sub_self]
    rfl
  · rw [if_neg (by omega), h i (by omega), List.getD_eq_getElem?_getD, List.getD_eq_getElem?_getD, List.getElem?_append_left (by omega)]
/-- dishes below n, unlike -/
def Bok (n : Nat) (b : List Nat) : Prop := b.Nodup ∧ ∀ x ∈ b, x < n
theorem nd_len : ∀ {n : Nat} {b : List Nat}, b.Nodup → (∀ x ∈ b, x < n) → b.length ≤ n
  | 0, [], _, _ => Nat.le_refl 0
  | 0, x :: _, _, h => absurd (h x List.mem_cons_self) (Nat.not_lt_zero x)
  | n + 1, b, hd, h => by
    by_cases hm : n ∈ b
    · have h1 := nd_len (n := n) (b := b.erase n) (hd.erase n) (fun x hx => by
        have h2 := (hd.mem_erase_iff).mp hx
        have h3 := h x h2.2
        omega)
      rw [List.length_erase_of_mem hm] at h1
      omega
    · have h1 := nd_len (n := n) hd (fun x hx => by
        have h3 := h x hx
        have h4 : x ≠ n := fun z => hm (z ▸ hx)
        omega)
      omega
theorem Bok_len {n : Nat} {b : List Nat} (h : Bok n b) : b.length ≤ n := nd_len h.1 h.2
def BI (μ : jM) (p : Nat) (b : List Nat) : Prop := isB p ∧ Bok 10 b ∧ μ p 1 = (b.length : Int) ∧ μ p 2 = (bset b : Int) ∧ LAn (μ (p + 1)) b
theorem BI_cg {μ μ' : jM} {p : Nat} {b : List Nat} (h : BI μ p b) (e1 : μ' p = μ p) (e2 : μ' (p + 1) = μ (p + 1)) : BI μ' p b := ⟨h.1, h.2.1, by rw [e1]; exact h.2.2.1, by rw [e1]; exact h.2.2.2.1, by rw [e2]; exact h.2.2.2.2⟩
theorem c_X0_size (d : Nat) {μ : jM} {p : Nat} {b : List Nat} (h : BI μ p b) : CL (d + 1) 2 [jR p] μ = rI (b.length : Int) μ := by
  rw [e_X0_size, cd_t (isB_f h.1).1, h.2.2.1]
theorem c_X0_set (d : Nat) {μ : jM} {p : Nat} {b : List Nat} (h : BI μ p b) : CL (d + 1) 3 [jR p] μ = rI (bset b : Int) μ := by
  rw [e_X0_set, cd_t (isB_f h.1).1, h.2.2.2.1]
theorem bla_at {b : List Nat} (h : b ≠ []) : bla b = b.getD (b.length - 1) 0 := by
  unfold bla
  rw [List.getLastD_eq_getLast?, List.getLast?_eq_getElem?, List.getD_eq_getElem?_getD]
  have hl : 0 < b.length := List.length_pos_iff.mpr h
  rw [List.getElem?_eq_getElem (by omega)]
  rfl
theorem bla_mem {b : List Nat} (h : b ≠ []) : bla b ∈ b := by
  rw [bla_at h]
  have hl : 0 < b.length := List.length_pos_iff.mpr h
  rw [List.getD_eq_getElem?_getD, List.getElem?_eq_getElem (by omega)]
  exact List.getElem_mem _
theorem c_X0_last (d : Nat) {μ : jM} {p : Nat} {b : List Nat} (h : BI μ p b) : CL (d + 1) 4 [jR p] μ = rI (lno (bla b)) μ := by
  obtain ⟨h1, h2, h3, h4⟩ := isB_f h.1
  have hl := Bok_len h.2.1
  rw [e_X0_last]
  simp only [cd_t h1, h2, cd_t h3, h4, h.2.2.1]
  by_cases hz : b = []
  · subst hz
    rfl
  · have hp : 0 < b.length := List.length_pos_iff.mpr hz
    have hb := h.2.1.2 _ (bla_mem hz)
    rw [if_pos (by omega), if_neg (by omega), w_id (by omega) (by omega), gd_t (by omega)]
    have e : (b.length : Int) - 1 = ((b.length - 1 : Nat) : Int) := by omega
    rw [e, h.2.2.2.2 _ (by omega), ← bla_at hz]
    unfold lno
    rw [if_neg (by omega)]
theorem c_X0_add (d : Nat) {μ : jM} {p : Nat} {b : List Nat} (h : BI μ p b) (x : Nat) (hx : x < 10) (hn : x ∉ b) : ∃ μ', CL (d + 1) 5 [jR p, jI x] μ = rV μ' ∧ (∀ q, q ≠ p → q ≠ p + 1 → μ' q = μ q) ∧ BI μ' p (b ++ [x]) := by
  obtain ⟨h1, h2, h3, h4⟩ := isB_f h.1
  have hok : Bok 10 (b ++ [x]) := by
    refine ⟨List.nodup_append.mpr ⟨h.2.1.1, List.nodup_cons.mpr ⟨List.not_mem_nil, List.nodup_nil⟩, fun a ha y hy => ?_⟩, fun y hy => ?_⟩
    · rw [List.mem_singleton.mp hy]
      exact fun z => hn (z ▸ ha)
    · rcases List.mem_append.mp hy with z | z
      · exact h.2.1.2 y z
      · rw [List.mem_singleton.mp z]
        exact hx
  have hl := Bok_len hok
  rw [List.length_append, List.length_singleton] at hl
  have hb : bset b < 2 ^ 10 := bset_lt h.2.1.2
  have hx2 := p2_le (show x ≤ 10 by omega)
  rw [e_X0_add]
  simp only [cd_t h1, h2, cd_t h3, h4, h.2.2.1]
  rw [if_pos (by omega), gd_t (by omega)]
  simp (disch := omega) only [jup_r, jup_m, jup_n, h.2.2.1, h.2.2.2.1]
  rw [w_s _ (by omega), shl_1 _ (by omega), or_nn _ _ (by omega) (by omega)]
  refine ⟨_, rfl, fun q q1 q2 => by rw [jup_ne q1, jup_ne q1, jup_ne q2], h.1, hok, ?_, ?_, ?_⟩
  · simp (disch := omega) only [jup_r, jup_m, jup_n]
    simp
  · simp (disch := omega) only [jup_r, jup_m, jup_n]
    rw [bset_snoc]
  · rw [jup_ne (by omega), jup_ne (by omega), jup_eq]
    exact LAn_snoc h.2.2.2.2
theorem c_X0_clear (d : Nat) {μ : jM} {p : Nat} (hp : isB p) : ∃ μ', CL (d + 1) 7 [jR p] μ = rV μ' ∧ (∀ q, q ≠ p → μ' q = μ q) ∧ BI μ' p [] := by
  obtain ⟨h1, h2, h3, h4⟩ := isB_f hp
  rw [e_X0_clear]
  simp only [cd_t h1]
  refine ⟨_, rfl, fun q q1 => by rw [jup_ne q1, jup_ne q1], hp, ⟨List.nodup_nil, fun x hx => by cases hx⟩, ?_, ?_, fun i hi => absurd hi (Nat.not_lt_zero i)⟩
  · simp (disch := omega) only [jup_r, jup_m, jup_n]
    rfl
  · simp (disch := omega) only [jup_r, jup_m, jup_n]
    rfl
theorem c_X0_takeLast (d : Nat) {μ : jM} {p : Nat} {b : List Nat} (h : BI μ p b) : ∃ μ', CL (d + 2) 6 [jR p] μ = rI (lno (bla b)) μ' ∧ (∀ q, q ≠ p → μ' q = μ q) ∧ BI μ' p b.dropLast := by
  obtain ⟨h1, h2, h3, h4⟩ := isB_f h.1
  rw [e_X0_takeLast]
  simp only [cd_t h1]
  rw [c_X0_last _ h, bI_r]
  by_cases hz : b = []
  · subst hz
    exact ⟨μ, rfl, fun _ _ => rfl, h⟩
  · have hp : 0 < b.length := List.length_pos_iff.mpr hz
    have hm := bla_mem hz
    have hb := h.2.1.2 _ hm
    have hl := Bok_len h.2.1
    have hs : bset b < 2 ^ 10 := bset_lt h.2.1.2
    have hx2 := p2_le (show bla b ≤ 10 by omega)
    have e : lno (bla b) = (bla b : Int) := if_neg (by omega)
    rw [e, if_neg (by omega)]
    simp (disch := omega) only [jup_r, jup_m, jup_n, h.2.2.1, h.2.2.2.1]
    rw [w_id (by omega) (by omega), shl_1 _ (by omega), xor_m1 _ (by omega), and_nc _ _ (by omega) (by omega)]
    have hsp : b = b.dropLast ++ [bla b] := by
      have h9 := List.dropLast_concat_getLast hz
      have h8 : bla b = b.getLast hz := by
        cases b with
        | nil => exact absurd rfl hz
        | cons y l => rfl
      rw [h8]
      exact h9.symm
    have hni : bla b ∉ b.dropLast := fun z => by
      have hn := h.2.1.1
      rw [hsp] at hn
      exact (List.nodup_append.mp hn).2.2 _ z _ (List.mem_singleton.mpr rfl) rfl
    refine ⟨_, rfl, fun q q1 => by rw [jup_ne q1, jup_ne q1], h.1, ⟨h.2.1.1.sublist (List.dropLast_sublist b), fun x hx => h.2.1.2 x ((List.dropLast_sublist b).subset hx)⟩, ?_, ?_, fun i hi => ?_⟩
    · simp (disch := omega) only [jup_r, jup_m, jup_n]
      rw [List.length_dropLast]
      omega
    · simp (disch := omega) only [jup_r, jup_m, jup_n]
      congr 1
      apply Nat.eq_of_testBit_eq
      intro i
      rw [nd_tb, bset_tb, bset_tb, Nat.testBit_two_pow]
      by_cases hi : bla b = i
      · subst hi
        simp [hni]
      · have : (i ∈ b) ↔ (i ∈ b.dropLast) := by
          constructor
          · intro z
            rw [hsp] at z
            rcases List.mem_append.mp z with y | y
            · exact y
            · exact absurd (List.mem_singleton.mp y).symm hi
          · exact fun z => (List.dropLast_sublist b).subset z
        simp [hi, this]
    · simp (disch := omega) only [jup_r, jup_m, jup_n]
      rw [List.length_dropLast] at hi
      rw [h.2.2.2.2 i (by omega), List.getD_eq_getElem?_getD, List.getD_eq_getElem?_getD, List.getElem?_dropLast, if_pos (by omega)]
theorem c_X0_copy (d : Nat) {μ : jM} {p q : Nat} {b : List Nat} (h : BI μ q b) (hp : isB p) (hne : p ≠ q) : ∃ μ', CL (d + 1) 8 [jR p, jR q] μ = rV μ' ∧ (∀ r, r ≠ p → r ≠ p + 1 → μ' r = μ r) ∧ BI μ' p b := by
  obtain ⟨h1, h2, h3, h4⟩ := isB_f h.1
  obtain ⟨i1, i2, i3, i4⟩ := isB_f hp
  obtain ⟨g1, g2, g3, g4, g5⟩ := h
  have hl := Bok_len g2
  have n1 : q ≠ p + 1 := by rcases hp with rfl | rfl | rfl <;> rcases g1 with rfl | rfl | rfl <;> decide
  have n2 : q + 1 ≠ p := by rcases hp with rfl | rfl | rfl <;> rcases g1 with rfl | rfl | rfl <;> decide
  rw [e_X0_copy]
  simp only [cd_t h1, cd_t i1, h2, i2, cd_a h3 i3, h4, i4]
  rw [gd_t (by omega)]
  refine ⟨_, rfl, fun r r1 r2 => ?_, hp, g2, ?_, ?_, fun s hs => ?_⟩
  · rw [jup_ne r1, jup_ne r1, jfill_ne r2]
  · simp (disch := omega) only [jup_r, jup_m, jup_n]
    rw [jfill_ne n1]
    exact g3
  · simp (disch := omega) only [jup_r, jup_m, jup_n]
    rw [jfill_ne n1]
    exact g4
  · rw [jup_ne (by omega), jup_ne (by omega), jfill_eq]
    show (if 0 ≤ (s : Int) ∧ (s : Int) < 0 + 10 then _ else _) = _
    rw [if_pos (by omega), show (0 : Int) + ((s : Int) - 0) = s by omega]
    exact g5 s hs
