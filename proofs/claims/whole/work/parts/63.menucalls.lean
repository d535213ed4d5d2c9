/-! ## calls on MENUS: the class -/
/-- what a call of the class that only tells leaves -/
def fC (μ' μ : jM) : Prop := (∀ q, q < 11 ∨ q = 13 ∨ q = 16 ∨ q = 17 ∨ q = 20 ∨ q = 21 ∨ q = 28 ∨ (51 < q ∧ q ≠ 54 ∧ q ≠ 57 ∧ q ≠ 60) → μ' q = μ q) ∧ μ' 12 3 = μ 12 3
theorem fC_r (μ : jM) : fC μ μ := ⟨fun _ _ => rfl, rfl⟩
theorem fC_t {a b c : jM} (h1 : fC b a) (h2 : fC c b) : fC c a := ⟨fun q hq => (h2.1 q hq).trans (h1.1 q hq), h2.2.trans h1.2⟩
theorem fC_row {μ' μ : jM} (f : ∀ q, q ≠ 50 → q ≠ 51 → μ' q = μ q) : fC μ' μ := ⟨fun q hq => f q (by omega) (by omega), by rw [f 12 (by decide) (by decide)]⟩
theorem fC_KI {μ' μ : jM} {k : Kt} (f : fC μ' μ) (h : KI μ k) : KI μ' k := KI_cg h (fun q _ _ => f.1 q (by omega))
theorem fC_LI {μ' μ : jM} {w : Lw} (f : fC μ' μ) (h : LI μ 16 w) : LI μ' 16 w := LI_cg h (f.1 16 (by omega)) (f.1 17 (by omega))
theorem fC_BI {μ' μ : jM} {b : List Nat} (f : fC μ' μ) (h : BI μ 20 b) : BI μ' 20 b := BI_cg h (f.1 20 (by omega)) (f.1 21 (by omega))
theorem fC_MC {μ' μ : jM} {M : Mn} (f : fC μ' μ) (h : MC μ M) : MC μ' M := fun i hi => MI_cg (h i hi) (f.1 _ (by omega)) (f.1 _ (by omega))
/-- what a call of the reference that only tells leaves -/
def fR (μ' μ : jM) : Prop := (∀ q, q < 69 ∨ (69 < q ∧ q < 81) ∨ q = 82 ∨ 95 < q → μ' q = μ q) ∧ ∀ j : Int, (j = 1 ∨ j = 6 ∨ j = 9 ∨ j = 10 ∨ j = 11 ∨ j = 13 ∨ j = 17 ∨ j = 27 ∨ j = 49) → μ' 69 j = μ 69 j
theorem fR_r (μ : jM) : fR μ μ := ⟨fun _ _ => rfl, fun _ _ => rfl⟩
theorem fR_t {a b c : jM} (h1 : fR b a) (h2 : fR c b) : fR c a := ⟨fun q hq => (h2.1 q hq).trans (h1.1 q hq), fun j hj => (h2.2 j hj).trans (h1.2 j hj)⟩
theorem fR_f {μ' μ : jM} (h : fRf μ' μ) : fR μ' μ := ⟨fun q hq => h.1 q (by omega), fun j hj => h.2 j (by omega)⟩
theorem fR_k {μ' μ : jM} (h : fLk μ' μ) : fR μ' μ := ⟨fun q hq => h.1 q (by omega), fun j hj => h.2 j (by omega)⟩
theorem fR_0 (μ : jM) : fR (jup μ 69 20 0) μ := ⟨fun q hq => jup_ne (by omega), fun j hj => jup_m (by omega)⟩
theorem fR_19 (μ : jM) (v : Int) : fR (jup μ 69 19 v) μ := ⟨fun q hq => jup_ne (by omega), fun j hj => jup_m (by omega)⟩
theorem fR_row {μ' μ : jM} (f : ∀ q, q ≠ 69 → q ≠ 81 → μ' q = μ q) (g : ∀ j, j ≠ 19 → μ' 69 j = μ 69 j) : fR μ' μ := ⟨fun q hq => f q (by omega) (by omega), fun j hj => g j (by omega)⟩
theorem fR_KR {μ' μ : jM} {k : Kt} (f : fR μ' μ) (h : KR μ k) : KR μ' k := KR_cg h (fun q _ _ => f.1 q (by omega)) (f.2 1 (by omega)) (f.2 6 (by omega))
theorem fR_LR {μ' μ : jM} {w : Lw} (f : fR μ' μ) (h : LR μ w) : LR μ' w := LR_cg h (f.1 70 (by omega)) (f.2 9 (by omega)) (f.2 10 (by omega)) (f.2 11 (by omega))
theorem fR_SR {μ' μ : jM} {b : List Nat} (f : fR μ' μ) (h : SR μ b) : SR μ' b := SR_cg h (f.1 77 (by omega)) (f.2 13 (by omega))
theorem fR_MR {μ' μ : jM} {M : Mn} (f : fR μ' μ) (h : MR μ M) : MR μ' M := MR_cg h (f.1 79 (by omega)) (f.1 78 (by omega))
def Mkk (k : Kt) (M : Mn) : Prop := ∀ i, i < 3 → Mok (kn k) (M i)
theorem mwy_k {k : Kt} {w : Lw} {m : List Nat} (hm : Mok (kn k) m) {i : Nat} (h : mwy k w m i = 0) : m.getD i 10 < kn k := by
  unfold mwy at h
  by_cases hz : m.getD i 10 = 10
  · rw [if_pos hz] at h
    cases h
  · rcases Mok_at hm i with z | z
    · exact absurd z hz
    · exact z
theorem mft_k {k : Kt} {w : Lw} {m : List Nat} (hm : Mok (kn k) m) : ∀ i, i < mft k w m → m.getD i 10 < kn k := fun i hi => by
  have := (fs_spec (fun i => mwy k w m i != 0) m.length).2.1 i hi
  exact mwy_k (w := w) hm (by simpa using this)
theorem mft_le (k : Kt) (w : Lw) (m : List Nat) : mft k w m ≤ m.length := (fs_spec (fun i => mwy k w m i != 0) m.length).1
/-- look -/
def lkA (k : Kt) (w : Lw) (m : List Nat) : Int := if mft k w m < m.length then ((mft k w m : Nat) : Int) else -2
def lkW (k : Kt) (w : Lw) (m : List Nat) : Int := if mft k w m < m.length then mwy k w m (mft k w m) else 0
theorem c_X4_whyEnd (d : Nat) {μ : jM} {p r : Nat} {m : List Nat} {k : Kt} {w : Lw} (h : MI μ p m) (hk : KI μ k) (hw : LI μ r w) (hm : Mok (kn k) m) (t : Nat) (ht : t ≤ m.length) : CL (d + 5) 68 [jR p, jI t, jR 3, jR r] μ = rI (if t < m.length then mwy k w m t else 0) μ := by
  by_cases hlt : t < m.length
  · rw [if_pos hlt]
    exact c_X4_whyAt d h hk hw hm t hlt
  · have h1 := (isM_f h.1).1
    rw [if_neg hlt, e_X4_whyAt]
    simp only [cd_t h1, h.2.2.1]
    rw [if_neg (by omega), if_neg (by omega)]
theorem c_X11_look (d : Nat) {μ : jM} {k : Kt} {w : Lw} {M : Mn} {r : List Int} (hk : KI μ k) (hw : LI μ 16 w) (hM : MC μ M) (hok : Mkk k M) (hr : RI μ r) (a : Int) : ∃ μ', CL (d + 7) 161 [jR 0, jI a] μ = rI (if laid M a then lkA k w (M a.toNat) else -3) μ' ∧ fC μ' μ ∧ RI μ' (if laid M a then [lkW k w (M a.toNat), mco k (M a.toNat) (mft k w (M a.toNat)), (mhu k (M a.toNat) (mft k w (M a.toNat)) : Int)] else r) := by
  rw [e_X11_look, c_X11_isLaid _ hM, bI_r]
  cases hl : laid M a with
  | false => exact ⟨μ, rfl, fC_r μ, hr⟩
  | true =>
    obtain ⟨i, hi, rfl, hp⟩ := laid_i hl
    have hm := hM i hi
    have hmk := hok i hi
    have h1 := (isM_f hm.1).1
    have hle := mft_le k w (M i)
    rw [if_pos rfl, if_pos rfl, if_neg (by decide), Int.toNat_natCast, gd_t (by omega), RF_22 i hi]
    simp only [cd_t h1]
    rw [c_X4_fault _ hm hk hw hmk, bI_r]
    -- the rest, till a place
    have rest : ∀ t : Nat, t = mft k w (M i) → ∀ v : Int, ∃ μ', (bV (CL (d + 6) 104 [jR 50] μ) fun μ3 => bI (CL (d + 6) 68 [jR (52 + 3 * i), jI t, jR 3, jR 16] μ3) fun x4 μ4 => bV (CL (d + 6) 105 [jR 50, jI x4] μ4) fun μ5 => bI (CL (d + 6) 70 [jR (52 + 3 * i), jI t, jR 3] μ5) fun x6 μ6 => bV (CL (d + 6) 105 [jR 50, jI x6] μ6) fun μ7 => bI (CL (d + 6) 71 [jR (52 + 3 * i), jI t, jR 3] μ7) fun x8 μ8 => bV (CL (d + 6) 105 [jR 50, jI x8] μ8) fun μ9 => if v = (-1) then rI (-2) μ9 else rI v μ9) = (if v = (-1) then rI (-2) μ' else rI v μ') ∧ fC μ' μ ∧ RI μ' [lkW k w (M i), mco k (M i) (mft k w (M i)), (mhu k (M i) (mft k w (M i)) : Int)] := by
      intro t ht v
      subst ht
      obtain ⟨μ3, e3, f3, r3⟩ := c_X7_clear (d + 5) (μ := μ)
      have c3 := fC_row f3
      obtain ⟨μ5, e5, f5, r5⟩ := c_X7_add (d + 5) r3 (lkW k w (M i)) (by simp)
      have c5 := fC_t c3 (fC_row f5)
      obtain ⟨μ7, e7, f7, r7⟩ := c_X7_add (d + 5) r5 (mco k (M i) (mft k w (M i))) (by simp)
      have c7 := fC_t c5 (fC_row f7)
      obtain ⟨μ9, e9, f9, r9⟩ := c_X7_add (d + 5) r7 ((mhu k (M i) (mft k w (M i)) : Nat) : Int) (by simp)
      have c9 := fC_t c7 (fC_row f9)
      refine ⟨μ9, ?_, c9, r9⟩
      have hkn := mft_k (w := w) hmk
      rw [e3, bV_r, c_X4_whyEnd _ (fC_MC c3 hM i hi) (fC_KI c3 hk) (fC_LI c3 hw) hmk _ hle, bI_r, show (if mft k w (M i) < (M i).length then mwy k w (M i) (mft k w (M i)) else 0) = lkW k w (M i) from rfl, e5, bV_r, c_X4_costTill _ (fC_MC c5 hM i hi) (fC_KI c5 hk) _ hle hkn, bI_r, e7, bV_r, c_X4_hungryTill _ (fC_MC c7 hM i hi) (fC_KI c7 hk) _ hle hkn, bI_r, e9, bV_r]
    unfold lkA
    by_cases hlt : mft k w (M i) < (M i).length
    · rw [if_pos hlt, if_pos hlt, if_neg (by omega)]
      obtain ⟨μ', e, c, r'⟩ := rest _ rfl ((mft k w (M i) : Nat) : Int)
      refine ⟨μ', e.trans ?_, c, r'⟩
      rw [if_neg (by omega)]
    · rw [if_neg hlt, if_neg hlt, if_pos rfl, c_X4_size _ hm, bI_r]
      obtain ⟨μ', e, c, r'⟩ := rest (M i).length (by omega) (-1)
      refine ⟨μ', e.trans ?_, c, r'⟩
      rw [if_pos rfl]
def msp (M : Mn) (a j i : Int) : Bool := decide (0 ≤ a ∧ a < 3) && decide (0 ≤ j ∧ j < (M a.toNat).length ∧ 0 ≤ i ∧ i < (M a.toNat).length ∧ j ≠ i)
def mput (M : Mn) (a : Nat) (m : List Nat) : Mn := fun i => if i = a then m else M i
/-- a call of the class that changes one MENU -/
def fCm (μ' μ : jM) : Prop := (∀ q, q < 52 ∨ 60 < q → μ' q = μ q)
theorem MC_put {μ μ' : jM} {M : Mn} (h : MC μ M) {i : Nat} (hi : i < 3) {m : List Nat} (f : ∀ q, q ≠ 52 + 3 * i → q ≠ 52 + 3 * i + 1 → μ' q = μ q) (hm : MI μ' (52 + 3 * i) m) : MC μ' (mput M i m) := fun j hj => by
  unfold mput
  by_cases e : j = i
  · rw [if_pos e, e]
    exact hm
  · rw [if_neg e]
    exact MI_cg (h j hj) (f _ (by omega) (by omega)) (f _ (by omega) (by omega))
theorem c_X11_swap (d : Nat) {μ : jM} {M : Mn} (hM : MC μ M) (a j i : Int) : ∃ μ', CL (d + 3) 162 [jR 0, jI a, jI j, jI i] μ = rI (if msp M a j i then 1 else 0) μ' ∧ fCm μ' μ ∧ MC μ' (if msp M a j i then mput M a.toNat (msw (M a.toNat) j.toNat i.toNat) else M) := by
  rw [e_X11_swap]
  unfold msp
  by_cases ha : 0 ≤ a ∧ a < 3
  · obtain ⟨x, rfl⟩ := Int.eq_ofNat_of_zero_le ha.1
    have hx : x < 3 := by omega
    obtain ⟨μ1, e1, f1, i1⟩ := c_X4_exchange d (hM x hx) j i
    rw [decide_eq_true ha, Bool.true_and, Int.toNat_natCast]
    rw [if_neg (by omega), if_pos (by omega), gd_t (by omega), RF_22 x hx, cd_t (isM_f (hM x hx).1).1, e1, bI_r]
    by_cases hc : 0 ≤ j ∧ j < (M x).length ∧ 0 ≤ i ∧ i < (M x).length ∧ j ≠ i
    · rw [if_pos hc] at i1
      rw [if_pos hc, decide_eq_true hc]
      exact ⟨μ1, rfl, fun q hq => f1 q (by omega), MC_put hM hx (fun q _ h2 => f1 q h2) i1⟩
    · rw [if_neg hc] at i1
      rw [if_neg hc, decide_eq_false hc]
      refine ⟨μ1, rfl, fun q hq => f1 q (by omega), fun y hy => ?_⟩
      by_cases e : y = x
      · rw [e]
        exact i1
      · exact MI_cg (hM y hy) (f1 _ (by omega)) (f1 _ (by omega))
  · rw [decide_eq_false ha, Bool.false_and]
    refine ⟨μ, ?_, fun _ _ => rfl, hM⟩
    by_cases h1 : a < 0
    · rw [if_pos h1]
      rfl
    · rw [if_neg h1, if_neg (by omega)]
      rfl
theorem c_X11_turn (d : Nat) {μ : jM} {M : Mn} (hM : MC μ M) (a : Int) : ∃ μ', CL (d + 4) 163 [jR 0, jI a] μ = rI (if laid M a then 1 else 0) μ' ∧ fCm μ' μ ∧ MC μ' (if laid M a then mput M a.toNat (mrv (M a.toNat)) else M) := by
  rw [e_X11_turn, c_X11_isLaid _ hM, bI_r]
  cases hl : laid M a with
  | false => exact ⟨μ, rfl, fun _ _ => rfl, hM⟩
  | true =>
    obtain ⟨i, hi, rfl, hp⟩ := laid_i hl
    obtain ⟨μ1, e1, f1, i1⟩ := c_X4_reverse d (hM i hi)
    rw [if_pos rfl, if_pos rfl, if_neg (by decide), Int.toNat_natCast, gd_t (by omega), RF_22 i hi, cd_t (isM_f (hM i hi).1).1, e1, bV_r, gd_t (by decide)]
    exact ⟨μ1, rfl, fun q hq => f1 q (by omega), MC_put hM hi (fun q _ h2 => f1 q h2) i1⟩
theorem Mok_app {n : Nat} {a b : List Nat} (ha : Mok n a) (hb : Mok n b) : Mok n (a ++ b) := fun x hx => by
  rcases List.mem_append.mp hx with z | z
  · exact ha x z
  · exact hb x z
theorem c_X11_joined (d : Nat) {μ : jM} {k : Kt} {w : Lw} {M : Mn} {r : List Int} (hk : KI μ k) (hw : LI μ 16 w) (hM : MC μ M) (hok : Mkk k M) (hr : RI μ r) (a c : Int) : ∃ μ', CL (d + 7) 164 [jR 0, jI a, jI c] μ = rI (if whol M a && whol M c then lkA k w (M a.toNat ++ M c.toNat) else -3) μ' ∧ fC μ' μ ∧ RI μ' (if whol M a && whol M c then [lkW k w (M a.toNat ++ M c.toNat)] else r) := by
  rw [e_X11_joined, c_X11_isWhole _ hM, bI_r]
  cases ha : whol M a with
  | false => exact ⟨μ, rfl, fC_r μ, hr⟩
  | true =>
    rw [z_t, c_X11_isWhole _ hM, bI_r]
    cases hc : whol M c with
    | false => exact ⟨μ, rfl, fC_r μ, hr⟩
    | true =>
      obtain ⟨i, hi, rfl, hp⟩ := laid_i (Bool.and_eq_true_iff.mp ha).1
      obtain ⟨j, hj, rfl, hp2⟩ := laid_i (Bool.and_eq_true_iff.mp hc).1
      have hm1 := hM i hi
      have hm2 := hM j hj
      have l1 := hm1.2.1
      have l2 := hm2.2.1
      have cap1 : mcap (52 + 3 * i) = 10 := by
        unfold mcap
        rw [if_neg (by omega)]
      have cap2 : mcap (52 + 3 * j) = 10 := by
        unfold mcap
        rw [if_neg (by omega)]
      obtain ⟨μ1, e1, f1, i1⟩ := c_X4_clear (d + 5) (μ := μ) (p := 23) (Or.inl rfl)
      have c1 : fC μ1 μ := ⟨fun q hq => f1 q (by omega), by rw [f1 12 (by decide)]⟩
      obtain ⟨μ2, e2, f2, i2⟩ := c_X4_addAll (d + 4) i1 (fC_MC c1 hM i hi) (by omega) (by rw [List.length_nil, show mcap 23 = 20 from rfl]; omega)
      have c2 := fC_t c1 ⟨fun q hq => f2 q (by omega) (by omega), by rw [f2 12 (by decide) (by decide)]⟩
      obtain ⟨μ3, e3, f3, i3⟩ := c_X4_addAll (d + 4) i2 (fC_MC c2 hM j hj) (by omega) (by rw [List.nil_append, show mcap 23 = 20 from rfl]; omega)
      have c3 := fC_t c2 ⟨fun q hq => f3 q (by omega) (by omega), by rw [f3 12 (by decide) (by decide)]⟩
      rw [List.nil_append] at i3
      have hmk := Mok_app (hok i hi) (hok j hj)
      have hle := mft_le k w (M i ++ M j)
      obtain ⟨μ4, e4, f4, r4⟩ := c_X7_clear (d + 5) (μ := μ3)
      have c4 := fC_t c3 (fC_row f4)
      have i4 : MI μ4 23 (M i ++ M j) := MI_cg i3 (f4 23 (by decide) (by decide)) (f4 24 (by decide) (by decide))
      obtain ⟨μ5, e5, f5, r5⟩ := c_X7_add (d + 5) r4 (lkW k w (M i ++ M j)) (by simp)
      have c5 := fC_t c4 (fC_row f5)
      refine ⟨μ5, ?_, c5, ?_⟩
      · rw [z_t, e1, bV_r, gd_t (by omega), RF_22 i hi, e2, bV_r, gd_t (by omega), RF_22 j hj, e3, bV_r, c_X4_fault _ i3 (fC_KI c3 hk) (fC_LI c3 hw) hmk, bI_r, e4, bV_r, Bool.and_self, if_pos rfl, Int.toNat_natCast, Int.toNat_natCast]
        unfold lkA
        have eW : ∀ v, lkW k w (M i ++ M j) = v → CL (d + 6) 105 [jR 50, jI v] μ4 = rV μ5 := fun v hv => by rw [← hv]; exact e5
        by_cases hlt : mft k w (M i ++ M j) < (M i ++ M j).length
        · rw [if_pos hlt, if_pos hlt, if_neg (by omega), c_X4_whyAt _ i4 (fC_KI c4 hk) (fC_LI c4 hw) hmk _ hlt, bI_r, eW _ (if_pos hlt), bV_r, if_neg (by omega)]
        · rw [if_neg hlt, if_neg hlt, if_pos rfl, eW _ (if_neg hlt), bV_r, if_pos rfl]
      · rw [Bool.and_self, if_pos rfl, Int.toNat_natCast, Int.toNat_natCast]
        exact r5
/-- MENUS that fall by another law -/
def mfa (k : Kt) (w w' : Lw) (M : Mn) (i : Nat) : Bool := whol M (i : Int) && (decide (mft k w (M i) = (M i).length) && decide (mft k w' (M i) ≠ (M i).length))
def lawOk (s t h : Int) : Prop := (1 ≤ s ∧ s ≤ 8) ∧ (1 ≤ t ∧ t ≤ 9) ∧ (0 ≤ h ∧ h ≤ 2)
def lwo (w : Lw) (s t h : Int) : Lw := (s.toNat, t.toNat, h.toNat, lst w)
