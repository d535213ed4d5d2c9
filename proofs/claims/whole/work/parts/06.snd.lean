/-! ## the machine's world of a memory -/
def jok : jV → Prop
  | Sum.inl x => j32 x
  | Sum.inr (Sum.inl x) => j64 x
  | Sum.inr (Sum.inr p) => p < 100
def jemb (ad : Nat → Nat) : jV → Value
  | Sum.inl x => .int (Int32.ofInt x)
  | Sum.inr (Sum.inl x) => .long (Int64.ofInt x)
  | Sum.inr (Sum.inr p) => .ref (ad p)
def jokM (μ : jM) : Prop := ∀ (p : Nat) (i : Int), (KD p = 23 → j64 (μ p i)) ∧ (KD p ≠ 23 → j32 (μ p i))
def jfl (ad : Nat → Nat) (g : Int → Int) (p ci k : Nat) : Value := if FT ci k < 2 then .int (Int32.ofInt (g k)) else if FT ci k = 2 then .ref (ad (RF p k)) else if 0 ≤ g k then .ref (ad (g k).toNat) else .null
def jNf (ci : Nat) : Nat := (jFl.getD ci []).length
def jarr (ad : Nat → Nat) (g : Int → Int) (p : Nat) : vp_A := ((LN p).toNat, if KD p < 23 then .inl (fun j => Int32.ofInt (g j)) else if KD p = 23 then .inr (.inl (fun j => Int64.ofInt (g j))) else .inr (.inr (.inr (.inr (fun j => some (ad (RF p j)))))))
def jce (cA : Nat → ClassId) (ad : Nat → Nat) (g : Int → Int) (p : Nat) : va_E := if KD p < 20 then .inr (KD p, (List.range (jNf (KD p))).map (jfl ad g p (KD p))) else .inl (cA (KD p), jarr ad g p)
def jws (cA : Nat → ClassId) (ad : Nat → Nat) (μ : jM) : va_W := (List.range 100).map (fun p => (ad p, jce cA ad (μ p) p))
def jtys (cA : Nat → ClassId) : List (ClassId × FieldType) := [(cA 20, .int), (cA 21, .byte), (cA 22, .boolean), (cA 23, .long), (cA 24, .object RX4), (cA 25, .object RX2), (cA 26, .object RX0), (cA 27, .array .int)]
def jA (ad : Nat → Nat) : Nat → Prop := fun q => ∃ p, p < 100 ∧ q = ad p
theorem jup_ne {μ : jM} {p q : Nat} {i v : Int} (h : q ≠ p) : jup μ p i v q = μ q := by
  funext j
  unfold jup
  rw [if_neg (fun z => h z.1)]
theorem jup_eq {μ : jM} {p : Nat} {i v : Int} : jup μ p i v p = fun j => if j = i then v else μ p j := by
  funext j
  unfold jup
  by_cases h : j = i
  · rw [if_pos ⟨rfl, h⟩, if_pos h]
  · rw [if_neg (fun z => h z.2), if_neg h]
theorem jfill_ne {μ : jM} {p q : Nat} {f : Int → Int} (h : q ≠ p) : jfill μ p f q = μ q := by
  funext j
  unfold jfill
  rw [if_neg h]
theorem jfill_eq {μ : jM} {p : Nat} {f : Int → Int} : jfill μ p f p = f := by
  funext j
  unfold jfill
  rw [if_pos rfl]
theorem jws_len (cA : Nat → ClassId) (ad : Nat → Nat) (μ : jM) : (jws cA ad μ).length = 100 := by unfold jws; simp
theorem jws_at (cA : Nat → ClassId) (ad : Nat → Nat) (μ : jM) {p : Nat} (h : p < 100) : (jws cA ad μ)[p]? = some (ad p, jce cA ad (μ p) p) := by
  unfold jws
  rw [List.getElem?_map, List.getElem?_range h]
  rfl
theorem jws_set {cA : Nat → ClassId} {ad : Nat → Nat} {μ μ' : jM} {p : Nat} (h : p < 100) (hne : ∀ q, q ≠ p → μ' q = μ q) {e : va_E} (he : e = jce cA ad (μ' p) p) : (jws cA ad μ).set p (ad p, e) = jws cA ad μ' := by
  apply List.ext_getElem?
  intro k
  by_cases hk : k = p
  · subst hk
    rw [List.getElem?_set_self (by rw [jws_len]; exact h), jws_at _ _ _ h, he]
  · rw [List.getElem?_set_ne (Ne.symm hk)]
    by_cases h2 : k < 100
    · rw [jws_at _ _ _ h2, jws_at _ _ _ h2, hne k hk]
    · rw [List.getElem?_eq_none (by rw [jws_len]; omega), List.getElem?_eq_none (by rw [jws_len]; omega)]
theorem jws_D (cA : Nat → ClassId) {ad : Nat → Nat} (μ : jM) (hinj : ∀ i j, i < 100 → j < 100 → ad i = ad j → i = j) : va_D (jA ad) (jws cA ad μ) := by
  have key : ∀ (k : Nat) (q : Nat × va_E), (jws cA ad μ)[k]? = some q → k < 100 ∧ q.1 = ad k := by
    intro k q hk
    have h2 : k < 100 := by
      have := (List.getElem?_eq_some_iff.mp hk).1
      rwa [jws_len] at this
    rw [jws_at _ _ _ h2] at hk
    cases hk
    exact ⟨h2, rfl⟩
  refine ⟨fun i j x y hi hj hxy => ?_, fun k q hk => ?_⟩
  · obtain ⟨a1, a2⟩ := key i x hi
    obtain ⟨b1, b2⟩ := key j y hj
    exact hinj i j a1 b1 (by rw [← a2, ← b2]; exact hxy)
  · obtain ⟨a1, a2⟩ := key k q hk
    exact ⟨k, a1, a2⟩
theorem jok_up {μ : jM} (h : jokM μ) (p : Nat) (i v : Int) (h1 : KD p = 23 → j64 v) (h2 : KD p ≠ 23 → j32 v) : jokM (jup μ p i v) := by
  intro q j
  unfold jup
  by_cases hc : q = p ∧ j = i
  · rw [if_pos hc]
    obtain ⟨rfl, -⟩ := hc
    exact ⟨h1, h2⟩
  · rw [if_neg hc]
    exact h q j
theorem jok_fill {μ : jM} (h : jokM μ) (p : Nat) (f : Int → Int) (h1 : ∀ j, KD p = 23 → j64 (f j)) (h2 : ∀ j, KD p ≠ 23 → j32 (f j)) : jokM (jfill μ p f) := by
  intro q j
  unfold jfill
  by_cases hc : q = p
  · rw [if_pos hc]
    subst hc
    exact ⟨h1 j, h2 j⟩
  · rw [if_neg hc]
    exact h q j
theorem jce_o (cA : Nat → ClassId) (ad : Nat → Nat) (g : Int → Int) {p : Nat} (h : KD p < 20) : jce cA ad g p = .inr (KD p, (List.range (jNf (KD p))).map (jfl ad g p (KD p))) := if_pos h
theorem jce_a (cA : Nat → ClassId) (ad : Nat → Nat) (g : Int → Int) {p : Nat} (h : ¬ KD p < 20) : jce cA ad g p = .inl (cA (KD p), jarr ad g p) := if_neg h
theorem jarr_i (ad : Nat → Nat) (g : Int → Int) {p : Nat} (h : KD p < 23) : jarr ad g p = ((LN p).toNat, .inl (fun j => Int32.ofInt (g j))) := by
  unfold jarr
  rw [if_pos h]
theorem jarr_l (ad : Nat → Nat) (g : Int → Int) {p : Nat} (h : KD p = 23) : jarr ad g p = ((LN p).toNat, .inr (.inl (fun j => Int64.ofInt (g j)))) := by
  unfold jarr
  rw [if_neg (by omega), if_pos h]
theorem jarr_r (ad : Nat → Nat) (g : Int → Int) {p : Nat} (h : 23 < KD p) : jarr ad g p = ((LN p).toNat, .inr (.inr (.inr (.inr (fun j => some (ad (RF p j))))))) := by
  unfold jarr
  rw [if_neg (by omega), if_neg (by omega)]
theorem jupd (g : Int → Int) {i v : Int} (hi : 0 ≤ i) (x : Int32) (hx : x = Int32.ofInt v) : upd (fun j : Nat => Int32.ofInt (g j)) i.toNat x = fun j : Nat => Int32.ofInt ((fun j => if j = i then v else g j) j) := by
  funext j
  unfold upd
  subst hx
  show _ = Int32.ofInt (if (j : Int) = i then v else g j)
  by_cases h : j = i.toNat
  · rw [if_pos h, if_pos (show (j : Int) = i by omega)]
  · rw [if_neg h, if_neg (show ¬ (j : Int) = i by omega)]
theorem jupdl (g : Int → Int) {i v : Int} (hi : 0 ≤ i) : vp_updL (fun j : Nat => Int64.ofInt (g j)) i.toNat (Int64.ofInt v) = fun j : Nat => Int64.ofInt ((fun j => if j = i then v else g j) j) := by
  funext j
  unfold vp_updL
  show _ = Int64.ofInt (if (j : Int) = i then v else g j)
  by_cases h : j = i.toNat
  · rw [if_pos h, if_pos (show (j : Int) = i by omega)]
  · rw [if_neg h, if_neg (show ¬ (j : Int) = i by omega)]
/-! ## locals -/
def jrl (ad : Nat → Nat) (lv : jLs) (ls : Array Slot) (nL : Nat) : Prop := lv.length = nL ∧ ls.size = nL ∧ lv_wf ls ∧ ∀ (i : Nat) (v : jV), jnth lv i = some v → ls[i]? = some (.val (jemb ad v))
def jokL (lv : jLs) : Prop := ∀ (i : Nat) (v : jV), jnth lv i = some v → jok v
def jokS (st : jSt) : Prop := ∀ v, v ∈ st → jok v
theorem jnth_lt : ∀ {lv : jLs} {i : Nat} {v : jV}, jnth lv i = some v → i < lv.length
  | _ :: _, 0, _, _ => Nat.zero_lt_succ _
  | _ :: _, i + 1, _, h => Nat.succ_lt_succ (jnth_lt (i := i) h)
theorem jset_len : ∀ (lv : jLs) (i : Nat) (v : Option jV), (jset lv i v).length = lv.length
  | [], _, _ => rfl
  | _ :: _, 0, _ => rfl
  | _ :: l, i + 1, v => congrArg (· + 1) (jset_len l i v)
theorem jset_nth : ∀ (lv : jLs) (i j : Nat) (v : Option jV), jnth (jset lv i v) j = if j = i then (if i < lv.length then v else none) else jnth lv j
  | [], i, j, v => by
    show none = _
    split
    · rfl
    · rfl
  | x :: l, 0, 0, v => by simp [jset, jnth]
  | x :: l, 0, j + 1, v => by simp [jset, jnth]
  | x :: l, i + 1, 0, v => by simp [jset, jnth]
  | x :: l, i + 1, j + 1, v => by
    show jnth (jset l i v) j = _
    rw [jset_nth l i j v]
    simp [jnth]
def jprs (ad : Nat → Nat) (lv : jLs) : List (Nat × Value) := (List.range lv.length).filterMap (fun i => (jnth lv i).map (fun v => (i, jemb ad v)))
theorem jprs_mem {ad : Nat → Nat} {lv : jLs} {i : Nat} {w : Value} : (i, w) ∈ jprs ad lv ↔ ∃ v, jnth lv i = some v ∧ w = jemb ad v := by
  unfold jprs
  rw [List.mem_filterMap]
  constructor
  · rintro ⟨k, -, hk⟩
    cases h : jnth lv k with
    | none => rw [h] at hk; cases hk
    | some v =>
      rw [h] at hk
      cases hk
      exact ⟨v, h, rfl⟩
  · rintro ⟨v, h, rfl⟩
    exact ⟨i, List.mem_range.mpr (jnth_lt h), by rw [h]; rfl⟩
theorem jrl_has {ad : Nat → Nat} {lv : jLs} {ls : Array Slot} {nL : Nat} (h : jrl ad lv ls nL) : lv_has ls nL (jprs ad lv) := by
  refine ⟨h.2.1, h.2.2.1, fun q hq => ?_⟩
  obtain ⟨i, w⟩ := q
  obtain ⟨v, h1, rfl⟩ := jprs_mem.mp hq
  exact h.2.2.2 i v h1
theorem jcat_l (ad : Nat → Nat) (v : jV) : (jemb ad v).category = 2 ↔ jisL (some v) = true := by
  rcases v with x | x | p <;> simp [jemb, jisL, Value.category]
theorem jst1_len (lv : jLs) (i : Nat) (v : jV) : (jst1 lv i v).length = lv.length := by
  unfold jst1
  split
  · rw [jset_len]
  · rw [jset_len]
    cases jisL _
    · rfl
    · exact jset_len _ _ _
theorem jst1_nth {lv : jLs} {i j : Nat} {v w : jV} (h : jnth (jst1 lv i v) j = some w) : (j = i ∧ w = v) ∨ (j ≠ i ∧ jnth lv j = some w ∧ ¬ (j + 1 = i ∧ jisL (some w) = true)) := by
  unfold jst1 at h
  split at h
  · rw [jset_nth] at h
    by_cases hj : j = 0
    · rw [if_pos hj] at h
      split at h
      · cases h; exact Or.inl ⟨hj, rfl⟩
      · cases h
    · rw [if_neg hj] at h
      exact Or.inr ⟨hj, h, fun z => by omega⟩
  · rename_i k
    rw [jset_nth] at h
    by_cases hj : j = k + 1
    · rw [if_pos hj] at h
      split at h
      · cases h; exact Or.inl ⟨hj, rfl⟩
      · cases h
    · rw [if_neg hj] at h
      refine Or.inr ⟨hj, ?_⟩
      cases hL : jisL (jnth lv k) with
      | false =>
        rw [hL] at h
        have h4 : jnth lv j = some w := h
        refine ⟨h4, fun z => ?_⟩
        obtain ⟨z1, z2⟩ := z
        have hjk : j = k := by omega
        rw [← hjk, h4, z2] at hL
        cases hL
      | true =>
        rw [hL] at h
        have h : jnth (jset lv k none) j = some w := h
        rw [jset_nth] at h
        by_cases hk : j = k
        · rw [if_pos hk] at h
          split at h <;> cases h
        · rw [if_neg hk] at h
          exact ⟨h, fun z => hk (by omega)⟩
theorem jst1_rl {ad : Nat → Nat} {lv : jLs} {ls ls' : Array Slot} {nL i : Nat} {v : jV} (h : jrl ad lv ls nL) (h' : lv_has ls' nL ((i, jemb ad v) :: (jprs ad lv).filter (fun q => !(q.1 == i) && !(q.1 + 1 == i && q.2.category == 2)))) : jrl ad (jst1 lv i v) ls' nL := by
  refine ⟨by rw [jst1_len]; exact h.1, h'.1, h'.2.1, fun j w hw => ?_⟩
  rcases jst1_nth hw with ⟨rfl, rfl⟩ | ⟨h1, h2, h3⟩
  · exact h'.2.2 (j, jemb ad w) List.mem_cons_self
  · refine h'.2.2 (j, jemb ad w) (List.mem_cons_of_mem _ (List.mem_filter.mpr ⟨jprs_mem.mpr ⟨w, h2, rfl⟩, ?_⟩))
    simp only [Bool.and_eq_true, Bool.not_eq_true', beq_eq_false_iff_ne, ne_eq, Bool.and_eq_false_iff]
    refine ⟨h1, ?_⟩
    by_cases e : j + 1 = i
    · refine Or.inr fun z => h3 ⟨e, (jcat_l ad w).mp z⟩
    · exact Or.inl e
theorem jst2_rl {ad : Nat → Nat} {lv : jLs} {ls ls' : Array Slot} {nL i : Nat} {x : Int} (h : jrl ad lv ls nL) (h' : lv_has ls' nL ((i, jemb ad (jL x)) :: (jprs ad lv).filter (fun q => !(q.1 == i) && (!(q.1 == i + 1) && !(q.1 + 1 == i && q.2.category == 2))))) : jrl ad (jst2 lv i (jL x)) ls' nL := by
  refine ⟨by unfold jst2; rw [jset_len, jst1_len]; exact h.1, h'.1, h'.2.1, fun j w hw => ?_⟩
  unfold jst2 at hw
  rw [jset_nth] at hw
  by_cases hj : j = i + 1
  · rw [if_pos hj] at hw
    split at hw <;> cases hw
  · rw [if_neg hj] at hw
    rcases jst1_nth hw with ⟨rfl, rfl⟩ | ⟨h1, h2, h3⟩
    · exact h'.2.2 (j, jemb ad (jL x)) List.mem_cons_self
    · refine h'.2.2 (j, jemb ad w) (List.mem_cons_of_mem _ (List.mem_filter.mpr ⟨jprs_mem.mpr ⟨w, h2, rfl⟩, ?_⟩))
      simp only [Bool.and_eq_true, Bool.not_eq_true', beq_eq_false_iff_ne, ne_eq, Bool.and_eq_false_iff]
      refine ⟨h1, hj, ?_⟩
      by_cases e : j + 1 = i
      · refine Or.inr fun z => h3 ⟨e, (jcat_l ad w).mp z⟩
      · exact Or.inl e
theorem jst1_ok {lv : jLs} {i : Nat} {v : jV} (h : jokL lv) (hv : jok v) : jokL (jst1 lv i v) := by
  intro j w hw
  rcases jst1_nth hw with ⟨-, rfl⟩ | ⟨-, h2, -⟩
  · exact hv
  · exact h j w h2
theorem jst2_ok {lv : jLs} {i : Nat} {v : jV} (h : jokL lv) (hv : jok v) : jokL (jst2 lv i v) := by
  intro j w hw
  unfold jst2 at hw
  rw [jset_nth] at hw
  split at hw
  · split at hw <;> cases hw
  · exact jst1_ok h hv j w hw
theorem jmk_nth : ∀ (bs : List Bool) (lv : jLs) (i : Nat) (v : jV), jnth (jmk bs lv) i = some v → jnth lv i = some v
  | [], _, _, _, h => by
    have h : jnth [] _ = some _ := h
    cases h
  | _ :: _, [], _, _, h => by
    have h : jnth [] _ = some _ := h
    cases h
  | b :: bs, x :: l, 0, v, h => by
    have h : (bif b then x else none) = some v := h
    cases b
    · cases h
    · exact h
  | b :: bs, x :: l, i + 1, v, h => jmk_nth bs l i v h
theorem jmk_len : ∀ (bs : List Bool) (lv : jLs), bs.length = lv.length → (jmk bs lv).length = lv.length
  | [], [], _ => rfl
  | _ :: bs, _ :: l, h => congrArg (· + 1) (jmk_len bs l (Nat.succ.inj h))
  | [], _ :: _, h => by cases h
  | _ :: _, [], h => by cases h
theorem jmk_rl {ad : Nat → Nat} {lv : jLs} {ls : Array Slot} {nL : Nat} (bs : List Bool) (hb : bs.length = nL) (h : jrl ad lv ls nL) : jrl ad (jmk bs lv) ls nL := ⟨by rw [jmk_len _ _ (hb.trans h.1.symm)]; exact h.1, h.2.1, h.2.2.1, fun i v hv => h.2.2.2 i v (jmk_nth _ _ _ _ hv)⟩
theorem jmk_ok {lv : jLs} (bs : List Bool) (h : jokL lv) : jokL (jmk bs lv) := fun i v hv => h i v (jmk_nth _ _ _ _ hv)
