/-! ## sign and end: both sides -/
theorem sgT_lt (t : List Nat) (v : Int) (h : ∀ c ∈ t, c < 256) : ∀ c ∈ sgT t v, c < 256 := fun c hc => by
  unfold sgT at hc
  split at hc
  · rcases List.mem_append.mp hc with z | z
    · exact h c z
    · have hb := byt_lt v
      have h4 : c = byt v 0 ∨ c = byt v 1 ∨ c = byt v 2 ∨ c = byt v 3 := by simpa using z
      rcases h4 with q | q | q | q <;> rw [q] <;> exact hb _
  · exact h c hc
theorem c_X11_sign (d : Nat) {μ : jM} {t : List Nat} (ht : TC μ t) (v : Int) (hv : -2147483648 ≤ v ∧ v ≤ 2147483647) : ∃ μ', CL (d + 2) 145 [jR 0, jI v] μ = rI (sgA t) μ' ∧ (∀ q, q ≠ 1 → q ≠ 2 → μ' q = μ q) ∧ TC μ' (sgT t v) := by
  obtain ⟨h1, h2, h3, h4⟩ := ht
  rw [e_X11_sign, e_X10_append, h3, w_id (by omega) (by omega)]
  unfold sgA
  by_cases hl : t.length ≤ 76
  · have et : sgT t v = t ++ [byt v 0, byt v 1, byt v 2, byt v 3] := if_pos hl
    obtain ⟨m, e1, w1⟩ := lp_i (fun (j : Nat) (m : jM) => EV d T_X10_append 1 [some (jR 1), some (jI v), some (jI j)] [] m) (fun j m => wr μ 2 t.length (fun j => (byt v j : Int)) j m) 4 (fun j m hj h => by
      refine ⟨_, ?_, wr_s h rfl⟩
      have hm : m 1 1 = (t.length : Int) := by rw [h.1 1 (by decide)]; exact h3
      show EV d T_X10_append 1 [some (jR 1), some (jI v), some (jI j)] [] m = _
      rw [e_X10_append_1, if_pos (by omega), hm, w_id (x := (t.length : Int) + (j : Int)) (by omega) (by omega), gd_t (by omega), w_id (x := 8 * (j : Int)) (by omega) (by omega), w_id (x := 24 - 8 * (j : Int)) (by omega) (by omega), show 24 - 8 * (j : Int) = ((24 - 8 * j : Nat) : Int) by omega, ush_i v hv j hj, w_s j (by omega)]
      rfl) μ (wr_0 _ _ _ _)
    have w1 : wr μ 2 t.length (fun j => (byt v j : Int)) 4 m := w1
    have hm : m 1 1 = (t.length : Int) := by rw [w1.1 1 (by decide)]; exact h3
    have e2 : EV d T_X10_append 1 [some (jR 1), some (jI v), some (jI 0)] [] μ = rI 1 (jup m 1 1 ((t.length : Int) + 4)) := by
      refine Eq.trans e1 ?_
      show EV d T_X10_append 1 [some (jR 1), some (jI v), some (jI (4 : Nat))] [] m = _
      rw [e_X10_append_1, if_neg (by decide), hm, w_id (by omega) (by omega), gd_t (by omega)]
    rw [if_neg (show ¬ (80 : Int) < (t.length : Int) + 4 by omega), if_pos hl, e2, bI_r, if_neg (by decide), e_X10_length, bI_r, jup_r]
    refine ⟨_, rfl, fun q a b => (jup_ne a).trans (w1.1 q b), by rw [et, List.length_append]; show t.length + 4 ≤ 80; omega, sgT_lt t v h2, ?_, fun i hi => ?_⟩
    · rw [jup_r, et, List.length_append]
      rfl
    · rw [et, List.length_append] at hi
      have hi : i < t.length + 4 := hi
      rw [jup_ne (by decide), et, app4]
      by_cases hit : i < t.length
      · rw [if_pos hit, wr_o w1 (by omega)]
        exact h4 i hit
      · obtain ⟨j, rfl⟩ : ∃ j, i = t.length + j := ⟨i - t.length, by omega⟩
        rw [if_neg hit, wr_i w1 (by omega)]
        rcases (show j = 0 ∨ j = 1 ∨ j = 2 ∨ j = 3 by omega) with rfl | rfl | rfl | rfl
        · rw [if_pos (by omega)]
        · rw [if_neg (by omega), if_pos (by omega)]
        · rw [if_neg (by omega), if_neg (by omega), if_pos (by omega)]
        · rw [if_neg (by omega), if_neg (by omega), if_neg (by omega), if_pos (by omega)]
  · have et : sgT t v = t := if_neg hl
    rw [if_pos (show (80 : Int) < (t.length : Int) + 4 by omega), gd_t (by omega), bI_r, if_pos rfl, if_neg hl, et]
    exact ⟨μ, rfl, fun _ _ _ => rfl, h1, h2, h3, h4⟩
theorem c_X12_sign (d : Nat) {μ : jM} {t : List Nat} (ht : TR μ t) (v : Int) (hv : -2147483648 ≤ v ∧ v ≤ 2147483647) : ∃ μ', CL (d + 1) 212 [jR 69, jI v] μ = rI (sgA t) μ' ∧ ((∀ q, q ≠ 69 → q ≠ 80 → μ' q = μ q) ∧ ∀ j : Int, j ≠ 17 → j ≠ 20 → μ' 69 j = μ 69 j) ∧ TR μ' (sgT t v) := by
  obtain ⟨h1, h2, h3, h4⟩ := ht
  let m0 : jM := jup μ 69 20 0
  have e17 : m0 69 17 = (t.length : Int) := (jup_m (by decide)).trans h3
  have e80 : m0 80 = μ 80 := jup_ne (by decide)
  rw [e_X12_sign, show jup μ 69 20 0 69 17 = (t.length : Int) from e17, w_id (by omega) (by omega)]
  unfold sgA
  by_cases hl : t.length ≤ 76
  · have et : sgT t v = t ++ [byt v 0, byt v 1, byt v 2, byt v 3] := if_pos hl
    obtain ⟨m, e1, f1, g1, k1, w1⟩ := lp_i (fun (j : Nat) (m : jM) => EV d T_X12_sign 1 [some (jR 69), some (jI v), some (jI ((3 : Int) - j))] [] m) (fun j m => (∀ q, q ≠ 69 → q ≠ 80 → m q = m0 q) ∧ (∀ i : Int, i ≠ 17 → m 69 i = m0 69 i) ∧ m 69 17 = ((t.length + j : Nat) : Int) ∧ ∀ z : Int, m 80 z = if (t.length : Int) ≤ z ∧ z < (t.length : Int) + j then sgb (byt v (z - t.length).toNat) else m0 80 z) 4 (fun j m hj h => by
      have fm : ∀ q, q ≠ 69 → q ≠ 80 → m q = m0 q := h.1
      have gm : ∀ i : Int, i ≠ 17 → m 69 i = m0 69 i := h.2.1
      have km : m 69 17 = ((t.length + j : Nat) : Int) := h.2.2.1
      have wm : ∀ z : Int, m 80 z = if (t.length : Int) ≤ z ∧ z < (t.length : Int) + j then sgb (byt v (z - t.length).toNat) else m0 80 z := h.2.2.2
      refine ⟨jup (jup m 69 17 ((t.length + j + 1 : Nat) : Int)) 80 ((t.length + j : Nat) : Int) (sgb (byt v j)), ?_, fun q a b => (jup_ne b).trans ((jup_ne a).trans (fm q a b)), fun i hi => ?_, ?_, fun z => ?_⟩
      · show EV d T_X12_sign 1 [some (jR 69), some (jI v), some (jI ((3 : Int) - j))] [] m = EV d T_X12_sign 1 [some (jR 69), some (jI v), some (jI ((3 : Int) - ((j + 1 : Nat) : Int)))] [] _
        rw [e_X12_sign_1, if_neg (by omega), km, gd_t (by omega), w_s _ (by omega), w_id (x := 8 * ((3 : Int) - (j : Int))) (by omega) (by omega), show 8 * ((3 : Int) - (j : Int)) = ((24 - 8 * j : Nat) : Int) by omega, b8_byt v hv j hj, w_id (x := (3 : Int) - (j : Int) + -1) (by omega) (by omega), show (3 : Int) - (j : Int) + -1 = (3 : Int) - ((j + 1 : Nat) : Int) by omega]
      · show jup (jup m 69 17 _) 80 _ _ 69 i = _
        rw [jup_ne (by decide), jup_m hi]
        exact gm i hi
      · show jup (jup m 69 17 _) 80 _ _ 69 17 = _
        rw [jup_ne (by decide), jup_r]
        rfl
      · show jup (jup m 69 17 _) 80 ((t.length + j : Nat) : Int) _ 80 z = _
        by_cases hz : z = ((t.length + j : Nat) : Int)
        · rw [hz, jup_r, if_pos (by omega), show (((t.length + j : Nat) : Int) - (t.length : Int)).toNat = j by omega]
        · rw [jup_m hz, jup_ne (by decide), wm z]
          by_cases hc : (t.length : Int) ≤ z ∧ z < (t.length : Int) + j
          · rw [if_pos hc, if_pos (by omega)]
          · rw [if_neg hc, if_neg (by omega)]) m0 ⟨fun _ _ _ => rfl, fun _ _ => rfl, e17, fun z => (if_neg (by omega)).symm⟩
    have f1 : ∀ q, q ≠ 69 → q ≠ 80 → m q = m0 q := f1
    have g1 : ∀ i : Int, i ≠ 17 → m 69 i = m0 69 i := g1
    have k1 : m 69 17 = ((t.length + 4 : Nat) : Int) := k1
    have w1 : ∀ z : Int, m 80 z = if (t.length : Int) ≤ z ∧ z < (t.length : Int) + ((4 : Nat) : Int) then sgb (byt v (z - t.length).toNat) else m0 80 z := w1
    refine ⟨m, ?_, ⟨fun q a b => (f1 q a b).trans (jup_ne a), fun j a b => (g1 j a).trans (jup_m b)⟩, by rw [et, List.length_append]; show t.length + 4 ≤ 80; omega, sgT_lt t v h2, ?_, fun i hi => ?_⟩
    · rw [if_neg (show ¬ (80 : Int) < (t.length : Int) + 4 by omega), if_pos hl]
      refine Eq.trans e1 ?_
      show EV d T_X12_sign 1 [some (jR 69), some (jI v), some (jI (-1))] [] m = _
      rw [e_X12_sign_1, if_pos (by decide), k1]
      rfl
    · rw [k1, et, List.length_append]
      rfl
    · rw [et, List.length_append] at hi
      have hi : i < t.length + 4 := hi
      rw [et, app4, w1]
      by_cases hit : i < t.length
      · rw [if_pos hit, if_neg (by omega), e80]
        exact h4 i hit
      · obtain ⟨j, rfl⟩ : ∃ j, i = t.length + j := ⟨i - t.length, by omega⟩
        rw [if_neg hit, if_pos (by omega), show (((t.length + j : Nat) : Int) - (t.length : Int)).toNat = j by omega]
        rcases (show j = 0 ∨ j = 1 ∨ j = 2 ∨ j = 3 by omega) with rfl | rfl | rfl | rfl
        · rw [if_pos (by omega)]
        · rw [if_neg (by omega), if_pos (by omega)]
        · rw [if_neg (by omega), if_neg (by omega), if_pos (by omega)]
        · rw [if_neg (by omega), if_neg (by omega), if_neg (by omega), if_pos (by omega)]
  · have et : sgT t v = t := if_neg hl
    rw [if_pos (show (80 : Int) < (t.length : Int) + 4 by omega), if_neg hl, et]
    exact ⟨m0, rfl, ⟨fun q a _ => jup_ne a, fun j _ b => jup_m b⟩, h1, h2, e17, fun i hi => by rw [e80]; exact h4 i hi⟩
def enT (t : List Nat) (n : Int) : List Nat := if 0 ≤ n ∧ n ≤ t.length then t.take n.toNat else t
theorem getD_take {t : List Nat} {n i : Nat} (h : i < n) : (t.take n).getD i 0 = t.getD i 0 := by
  rw [List.getD_eq_getElem?_getD, List.getD_eq_getElem?_getD, List.getElem?_take, if_pos h]
theorem c_X11_end (d : Nat) {μ : jM} {t : List Nat} (ht : TC μ t) (n : Int) : ∃ μ', CL (d + 2) 146 [jR 0, jI n] μ = rI (if 0 ≤ n ∧ n ≤ t.length then 1 else 0) μ' ∧ (∀ q, q ≠ 1 → μ' q = μ q) ∧ TC μ' (enT t n) := by
  obtain ⟨h1, h2, h3, h4⟩ := ht
  rw [e_X11_end, e_X10_cutTo, h3]
  unfold enT
  by_cases hn : 0 ≤ n ∧ n ≤ t.length
  · obtain ⟨x, rfl⟩ := Int.eq_ofNat_of_zero_le hn.1
    have hl : (t.take x).length = x := by
      rw [List.length_take]
      omega
    rw [if_pos hn, if_pos hn, if_neg (by omega), if_neg (by omega), gd_t (by omega), bI_r, gd_t (by omega), Int.toNat_natCast]
    refine ⟨_, rfl, fun q hq => jup_ne hq, by omega, fun c hc => h2 c (List.mem_of_mem_take hc), by rw [jup_r, hl], fun i hi => ?_⟩
    rw [hl] at hi
    rw [jup_ne (by decide), getD_take hi]
    exact h4 i (by omega)
  · rw [if_neg hn, if_neg hn]
    refine ⟨μ, ?_, fun _ _ => rfl, h1, h2, h3, h4⟩
    by_cases h0 : n < 0
    · rw [if_pos h0, gd_t (by omega), bI_r, gd_t (by omega)]
    · rw [if_neg h0, if_pos (by omega), gd_t (by omega), bI_r, gd_t (by omega)]
theorem c_X12_end (d : Nat) {μ : jM} {t : List Nat} (ht : TR μ t) (n : Int) : ∃ μ', CL (d + 2) 213 [jR 69, jI n] μ = rI (if 0 ≤ n ∧ n ≤ t.length then 1 else 0) μ' ∧ ((∀ q, q ≠ 69 → μ' q = μ q) ∧ ∀ j : Int, j ≠ 17 → j ≠ 20 → μ' 69 j = μ 69 j) ∧ TR μ' (enT t n) := by
  obtain ⟨h1, h2, h3, h4⟩ := ht
  have e17 : jup μ 69 20 0 69 17 = (t.length : Int) := (jup_m (by decide)).trans h3
  rw [e_X12_end, e17, c_X12_in, bI_r]
  unfold enT
  by_cases hn : 0 ≤ n ∧ n ≤ t.length
  · obtain ⟨x, rfl⟩ := Int.eq_ofNat_of_zero_le hn.1
    have hl : (t.take x).length = x := by
      rw [List.length_take]
      omega
    rw [if_pos hn, if_pos hn, if_neg (by decide), gd_t (by omega), Int.toNat_natCast]
    refine ⟨_, rfl, ⟨fun q a => (jup_ne a).trans (jup_ne a), fun j a b => (jup_m a).trans (jup_m b)⟩, by omega, fun c hc => h2 c (List.mem_of_mem_take hc), by rw [jup_r, hl], fun i hi => ?_⟩
    rw [hl] at hi
    rw [jup_ne (by decide), jup_ne (by decide), getD_take hi]
    exact h4 i (by omega)
  · rw [if_neg hn, if_neg hn, if_pos rfl, gd_t (by omega)]
    exact ⟨_, rfl, ⟨fun q a => jup_ne a, fun j _ b => jup_m b⟩, h1, h2, e17, fun i hi => by rw [jup_ne (by decide)]; exact h4 i hi⟩
