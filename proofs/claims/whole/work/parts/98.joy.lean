/-! ## the codes of a rule -/
def cdL (l : List Int) : Prop := ∀ x ∈ l, 0 ≤ x ∧ x ≤ 2000
theorem cdL_app {l1 l2 : List Int} (h1 : cdL l1) (h2 : cdL l2) : cdL (l1 ++ l2) := fun x hx => by
  rcases List.mem_append.mp hx with z | z
  · exact h1 x z
  · exact h2 x z
theorem cdL_one {v : Int} (h : 0 ≤ v ∧ v ≤ 2000) : cdL [v] := fun x hx => by
  rw [List.mem_singleton] at hx
  rw [hx]
  exact h
def cdR (N : Nat) (F : Nat → Rz) : Prop := ∀ p, p ≤ N → ∀ z, F p = Sum.inr z → cdL z.1
def cB (c : Nat → Int) : Prop := ∀ p, -1 ≤ c p ∧ c p < 256
theorem thg_cd {N : Nat} {c : Nat → Int} (hc : ∀ i, N ≤ i → c i = -1) (hb : cB c) {PE : Nat → Rz} (hP : cdR N PE) (n : Nat) : cdR N (thg c PE n) := fun p hp z hz => by
  unfold thg at hz
  have hcp := hb p
  by_cases h40 : c p = 40
  · have l1 := c_40 hc (p := p) (by omega)
    rw [if_pos h40] at hz
    by_cases hn : 0 < n
    · rw [if_pos hn] at hz
      cases hx : PE (p + 1) with
      | inl q =>
        rw [hx] at hz
        cases hz
      | inr y =>
        rw [hx] at hz
        have hz : (if c y.2 = 41 then Sum.inr (y.1, y.2 + 1) else Sum.inl y.2 : Rz) = Sum.inr z := hz
        by_cases h41 : c y.2 = 41
        · rw [if_pos h41] at hz
          cases hz
          exact hP (p + 1) (by omega) y hx
        · rw [if_neg h41] at hz
          cases hz
    · rw [if_neg hn] at hz
      cases hz
  · rw [if_neg h40] at hz
    by_cases hd : isd (c p) = true
    · rw [if_pos hd] at hz
      cases hz
      obtain ⟨b1, b2, b3⟩ := nmF_b hc 3 0 p hp (by decide) (by decide) (by decide)
      exact cdL_one ⟨b2, by omega⟩
    · rw [if_neg hd] at hz
      by_cases hq : isq (c p) = true
      · have h1 := isq_i.mp hq
        rw [if_pos hq] at hz
        cases hz
        exact cdL_one (by omega)
      · rw [if_neg hq] at hz
        cases hz
theorem fcR_cd {N : Nat} {c : Nat → Int} (hc : ∀ i, N ≤ i → c i = -1) (hb : cB c) {PE : Nat → Rz} (hP : cdR N PE) (n : Nat) : ∀ r p, p ≤ N → ∀ z, fcR c PE n r p = Sum.inr z → cdL z.1 := by
  have base : ∀ p, p ≤ N → ∀ z, (match thg c PE n p with
      | Sum.inl q => Sum.inl q
      | Sum.inr z => Sum.inr (z.1, z.2, false) : Nat ⊕ (List Int × Nat × Bool)) = Sum.inr z → cdL z.1 := fun p hp z hz => by
    cases hx : thg c PE n p with
    | inl q =>
      rw [hx] at hz
      cases hz
    | inr y =>
      rw [hx] at hz
      cases hz
      exact thg_cd hc hb hP n p hp y hx
  intro r
  induction r with
  | zero => exact base
  | succ r ih =>
    intro p hp z hz
    unfold fcR at hz
    by_cases h45 : c p = 45
    · have l1 := c_40 hc (p := p) (by omega)
      rw [if_pos h45] at hz
      cases hx : fcR c PE n r (p + 1) with
      | inl q =>
        rw [hx] at hz
        cases hz
      | inr y =>
        rw [hx] at hz
        cases hz
        exact ih (p + 1) (by omega) y hx
    · rw [if_neg h45] at hz
      exact base p hp z hz
theorem fct_cd {N : Nat} {c : Nat → Int} (hc : ∀ i, N ≤ i → c i = -1) (hb : cB c) {PE : Nat → Rz} (hP : cdR N PE) (n : Nat) : cdR N (fct c PE n) := fun p hp z hz => by
  unfold fct at hz
  cases hx : fcR c PE n (40 - p) p with
  | inl q =>
    rw [hx] at hz
    cases hz
  | inr y =>
    rw [hx] at hz
    cases hz
    have := fcR_cd hc hb hP n (40 - p) p hp y hx
    show cdL (ngt y.1 y.2.2)
    unfold ngt
    split
    · exact cdL_app this (cdL_one (by decide))
    · exact this
theorem lpP_cd {N : Nat} {c : Nat → Int} (hc : ∀ i, N ≤ i → c i = -1) (hb : cB c) {F : Nat → Rz} (hF : okR N F) (hFc : cdR N F) {o1 o2 : Int} (h1 : 0 ≤ o1) (h2 : 0 ≤ o2) : ∀ (r : Nat) (l : List Int) (p : Nat), p ≤ N → cdL l → ∀ z, lpP c F o1 o2 r l p = Sum.inr z → cdL z.1 := by
  intro r
  induction r with
  | zero =>
    intro l p hp hl z hz
    cases hz
    exact hl
  | succ r ih =>
    intro l p hp hl z hz
    unfold lpP at hz
    have hcp := hb p
    by_cases ho : c p = o1 ∨ c p = o2
    · have l1 := c_40 hc (p := p) (by omega)
      rw [if_pos ho] at hz
      cases hx : F (p + 1) with
      | inl q =>
        rw [hx] at hz
        cases hz
      | inr y =>
        rw [hx] at hz
        have := (hF (p + 1) (by omega)).2 y hx
        exact ih _ y.2 this.2.1 (cdL_app (cdL_app hl (hFc (p + 1) (by omega) y hx)) (cdL_one (by omega))) z hz
    · rw [if_neg ho] at hz
      cases hz
      exact hl
theorem opP_cd {N : Nat} {c : Nat → Int} (hc : ∀ i, N ≤ i → c i = -1) (hb : cB c) {F : Nat → Rz} (hF : okR N F) (hFc : cdR N F) {o1 o2 : Int} (h1 : 0 ≤ o1) (h2 : 0 ≤ o2) : cdR N (opP c F o1 o2) := fun p hp z hz => by
  unfold opP at hz
  cases hx : F p with
  | inl q =>
    rw [hx] at hz
    cases hz
  | inr y =>
    rw [hx] at hz
    exact lpP_cd hc hb hF hFc h1 h2 40 y.1 y.2 ((hF p hp).2 y hx).2.1 (hFc p hp y hx) z hz
theorem exE_cd {N : Nat} {c : Nat → Int} (hc : ∀ i, N ≤ i → c i = -1) (hb : cB c) {S : Nat → Rz} (hS : okR N S) (hSc : cdR N S) : cdR N (exE c S) := fun p hp z hz => by
  unfold exE at hz
  cases hx : S p with
  | inl q =>
    rw [hx] at hz
    cases hz
  | inr y =>
    rw [hx] at hz
    have hcy := hb y.2
    have hz : (if c y.2 = 60 ∨ c y.2 = 62 ∨ c y.2 = 61 then (match S (y.2 + 1) with
      | Sum.inl q => Sum.inl q
      | Sum.inr w => Sum.inr (y.1 ++ w.1 ++ [1000 + c y.2], w.2)) else Sum.inr y : Rz) = Sum.inr z := hz
    by_cases hcm : c y.2 = 60 ∨ c y.2 = 62 ∨ c y.2 = 61
    · have l1 := c_40 hc (p := y.2) (by omega)
      rw [if_pos hcm] at hz
      cases hw : S (y.2 + 1) with
      | inl q =>
        rw [hw] at hz
        cases hz
      | inr w =>
        rw [hw] at hz
        cases hz
        exact cdL_app (cdL_app (hSc p hp y hx) (hSc (y.2 + 1) (by omega) w hw)) (cdL_one (by omega))
    · rw [if_neg hcm] at hz
      cases hz
      exact hSc p hp _ hx
theorem pExp_cd {N : Nat} {c : Nat → Int} (hc : ∀ i, N ≤ i → c i = -1) (hb : cB c) {PE : Nat → Rz} (hP : okR N PE) (hPc : cdR N PE) (n : Nat) : cdR N (pExp c PE n) := exE_cd hc hb (pSum_ok hc hP n) (opP_cd hc hb (pPro_ok hc hP n) (opP_cd hc hb (fct_ok hc hP n) (fct_cd hc hb hPc n) (by decide) (by decide)) (by decide) (by decide))
theorem pEx_cd {N : Nat} {c : Nat → Int} (hc : ∀ i, N ≤ i → c i = -1) (hb : cB c) : ∀ n, cdR N (pEx c n)
  | 0 => pExp_cd hc hb ok_no (fun p hp z hz => by cases hz) 0
  | n + 1 => pExp_cd hc hb (pEx_ok hc n) (pEx_cd hc hb n) (n + 1)
theorem ruC_b {r : List Nat} (h : ∀ c ∈ r, c < 256) : cdL (ruC r) := by
  unfold ruC
  cases hx : ruP r with
  | inl q => exact fun x hx => by cases hx
  | inr z =>
    unfold ruP at hx
    by_cases h0 : r.length = 0
    · rw [if_pos h0] at hx
      cases hx
      exact fun x hx => by cases hx
    · rw [if_neg h0] at hx
      exact pEx_cd (qc_o r) (fun p => tcb_b h 40 p) 4 0 (by decide) z hx
theorem ruC_n {r : List Nat} (h : Rok r) : (ruC r).length ≤ 40 ∧ ((ruC r).length = 0 ↔ r.length = 0) := by
  obtain ⟨h1, h2, l, hl⟩ := h
  have := (ruP_ok (t := r)).2 _ hl
  have e : ruC r = l := by
    unfold ruC
    rw [hl]
  rw [e]
  refine ⟨by have h3 : l.length ≤ r.length := this.2.1; omega, fun z => ?_, fun z => ?_⟩
  · by_cases q : r.length = 0
    · exact q
    · have h3 : 0 < l.length := this.2.2 q
      omega
  · have h3 : l.length ≤ r.length := this.2.1
    omega
/-! ## JOY -/
def qual (k : Kt) (g x : Nat) (c : Int) : Int := if c = 98 then (pc (kst k x &&& kba k g) : Nat) else if c = 99 then (kco k x : Nat) else if c = 103 then (g : Nat) else if c = 104 then (khe k x : Nat) else if c = 108 then (pc (kst k x &&& klo k g) : Nat) else if c = 110 then (pc (kst k x) : Nat) else if c = 111 then (kho k x : Nat) else (x : Nat)
def joyv (k : Kt) (r : List Nat) (g x : Nat) : Int := if r.length = 0 then (pc (kst k x &&& klo k g) : Nat) else max (-999) (min 999 ((runc (qual k g x) (ruC r) []).headD 0))
theorem pc_12 (n : Nat) : pc n ≤ 12 := by
  have h : ∀ m, pcb m n ≤ m := fun m => by
    induction m with
    | zero => exact Nat.le_refl 0
    | succ m ih =>
      show pcb m n + (if n.testBit m then 1 else 0) ≤ m + 1
      split <;> omega
  exact h 12
theorem qual_b {k : Kt} (h : Kok k) {g x : Nat} (hg : g < kg k) (hx : x < kn k) (c : Int) : -2147483648 ≤ qual k g x c ∧ qual k g x c ≤ 2147483647 := by
  have h1 := h.2.2.1 x hx
  have h2 := h.1
  have h3 := h.2.1
  have p1 := pc_12 (kst k x &&& kba k g)
  have p2 := pc_12 (kst k x &&& klo k g)
  have p3 := pc_12 (kst k x)
  unfold qual
  repeat' split
  all_goals omega
theorem joyv_b (k : Kt) (r : List Nat) (g x : Nat) : -999 ≤ joyv k r g x ∧ joyv k r g x ≤ 999 := by
  have p2 := pc_12 (kst k x &&& klo k g)
  unfold joyv
  split
  · omega
  · omega
/-- the stack -/
def SK (μ : jM) (s : List Int) : Prop := μ 12 5 = (s.length : Int) ∧ ∀ j : Nat, j < s.length → μ 15 (j : Int) = s.reverse.getD j 0
def fT (μ' μ : jM) : Prop := (∀ q, q ≠ 12 → q ≠ 15 → μ' q = μ q) ∧ ∀ j : Int, j ≠ 5 → μ' 12 j = μ 12 j
theorem fT_r (μ : jM) : fT μ μ := ⟨fun _ _ _ => rfl, fun _ _ => rfl⟩
theorem fT_t {μ1 μ2 μ3 : jM} (h1 : fT μ2 μ1) (h2 : fT μ3 μ2) : fT μ3 μ1 := ⟨fun q a b => (h2.1 q a b).trans (h1.1 q a b), fun j a => (h2.2 j a).trans (h1.2 j a)⟩
theorem fT_KI {μ' μ : jM} {k : Kt} (f : fT μ' μ) (h : KI μ k) : KI μ' k := KI_cg h (fun q _ _ => f.1 q (by omega) (by omega))
theorem fT_TaC {μ' μ : jM} {r : List Nat} (f : fT μ' μ) (h : TaC μ r) : TaC μ' r := ⟨h.1, (f.2 3 (by decide)).trans h.2.1, fun i hi => by rw [f.1 13 (by decide) (by decide)]; exact h.2.2 i hi⟩
theorem c_X9_push (d : Nat) {μ : jM} {s : List Int} (h : SK μ s) (hl : s.length < 40) (v : Int) : ∃ μ', CL (d + 1) 135 [jR 12, jI v] μ = rV μ' ∧ fT μ' μ ∧ SK μ' (v :: s) := by
  obtain ⟨h1, h2⟩ := h
  rw [e_X9_push, h1, if_neg (by omega), if_pos (by omega), gd_t (by omega), jup_ne (show (12 : Nat) ≠ 15 by decide), h1, w_s _ (by omega)]
  refine ⟨_, rfl, ⟨fun q a b => (jup_ne a).trans (jup_ne b), fun j a => (jup_m a).trans (jup_nf (by decide))⟩, jup_r _ _ _ _, fun j hj => ?_⟩
  have hj : j < s.length + 1 := hj
  rw [jup_ne (by decide), List.reverse_cons, List.getD_eq_getElem?_getD]
  by_cases hz : j = s.length
  · rw [hz, jup_r, List.getElem?_append_right (by rw [List.length_reverse]; exact Nat.le_refl _), List.length_reverse, Nat.sub_self]
    rfl
  · rw [jup_m (by omega), h2 j (by omega), List.getElem?_append_left (by rw [List.length_reverse]; omega), List.getD_eq_getElem?_getD]
theorem c_X9_pop (d : Nat) {μ : jM} {s : List Int} (h : SK μ s) (hl : s.length ≤ 40) : ∃ μ', CL (d + 1) 136 [jR 12] μ = rI (s.headD 0) μ' ∧ fT μ' μ ∧ SK μ' s.tail := by
  obtain ⟨h1, h2⟩ := h
  rw [e_X9_pop, h1]
  cases s with
  | nil =>
    rw [if_pos (by decide)]
    exact ⟨μ, rfl, fT_r μ, h1, h2⟩
  | cons v s =>
    have hl : s.length + 1 ≤ 40 := hl
    have hlen : ((v :: s).length : Int) = (s.length : Int) + 1 := rfl
    rw [if_neg (by omega), if_neg (by omega), jup_r, hlen, show (s.length : Int) + 1 - 1 = (s.length : Int) by omega, w_id (by omega) (by omega), gd_t (by omega), jup_ne (show (15 : Nat) ≠ 12 by decide), h2 s.length (Nat.lt_succ_self _)]
    refine ⟨_, ?_, ⟨fun q a _ => jup_ne a, fun j a => jup_m a⟩, jup_r _ _ _ _, fun j hj => ?_⟩
    · rw [List.reverse_cons, List.getD_eq_getElem?_getD, List.getElem?_append_right (by rw [List.length_reverse]; exact Nat.le_refl _), List.length_reverse, Nat.sub_self]
      rfl
    · have hj : j < s.length := hj
      show jup μ 12 5 _ 15 _ = s.reverse.getD j 0
      rw [jup_ne (by decide), h2 j (Nat.lt_succ_of_lt hj), List.reverse_cons, List.getD_eq_getElem?_getD, List.getElem?_append_left (by rw [List.length_reverse]; exact hj), List.getD_eq_getElem?_getD]
/-- a dish that is there, or one that isn't, told as nothing -/
def okx (k : Kt) (x : Nat) : Prop := x < kn k ∨ (¬ x < kn k ∧ kst k x = 0 ∧ kco k x = 0 ∧ khe k x = 0 ∧ kho k x = 0)
theorem o_stuffsOf (d : Nat) {μ : jM} {k : Kt} (h : KI μ k) (x : Nat) (hx : okx k x) : CL (d + 2) 14 [jR 3, jI x] μ = rI (kst k x : Int) μ := by
  rcases hx with z | ⟨z, z1, -⟩
  · exact c_X1_stuffsOf d h x z
  · rw [c_X1_stuffsOf' d h x (by omega), z1]
    rfl
theorem o_costOf (d : Nat) {μ : jM} {k : Kt} (h : KI μ k) (x : Nat) (hx : okx k x) : CL (d + 2) 15 [jR 3, jI x] μ = rI (kco k x : Int) μ := by
  rcases hx with z | ⟨z, -, z1, -⟩
  · exact c_X1_costOf d h x z
  · rw [c_X1_costOf' d h x (by omega), z1]
    rfl
theorem o_heatOf (d : Nat) {μ : jM} {k : Kt} (h : KI μ k) (x : Nat) (hx : okx k x) : CL (d + 2) 16 [jR 3, jI x] μ = rI (khe k x : Int) μ := by
  rcases hx with z | ⟨z, -, -, z1, -⟩
  · exact c_X1_heatOf d h x z
  · rw [e_X1_heatOf, c_X1_hasDish _ h, if_neg (by omega), bI_r, if_pos rfl, z1]
    rfl
theorem o_hoursOf (d : Nat) {μ : jM} {k : Kt} (h : KI μ k) (x : Nat) (hx : okx k x) : CL (d + 2) 17 [jR 3, jI x] μ = rI (kho k x : Int) μ := by
  rcases hx with z | ⟨z, -, -, -, z1⟩
  · exact c_X1_hoursOf d h x z
  · rw [e_X1_hoursOf, c_X1_hasDish _ h, if_neg (by omega), bI_r, if_pos rfl, z1]
    rfl
theorem o_st {k : Kt} (h : Kok k) {x : Nat} (hx : okx k x) : kst k x < 256 := by
  rcases hx with z | ⟨z, z1, -⟩
  · exact (h.2.2.1 x z).2.1
  · omega
theorem c_X9_quality (d : Nat) {μ : jM} {k : Kt} (hk : KI μ k) {g x : Nat} (hg : g < kg k) (hx : okx k x) (c : Int) (hc : isq c = true) : CL (d + 3) 137 [jI c, jR 3, jI g, jI x] μ = rI (qual k g x c) μ := by
  have h1 := o_st hk.1 hx
  have h2 := hk.1.2.2.2 g hg
  have a1 := Nat.and_le_left (n := kst k x) (m := kba k g)
  have a2 := Nat.and_le_left (n := kst k x) (m := klo k g)
  rw [e_X9_quality, o_stuffsOf _ hk x hx, bI_r]
  unfold qual
  have hq := isq_i.mp hc
  by_cases c1 : c = 98
  · rw [if_pos c1, if_pos c1, c_X1_barredBy _ hk g hg, bI_r, and_nn _ _ (by omega) (by omega), c_bc _ _ _ (by omega), bI_r]
  rw [if_neg c1, if_neg c1]
  by_cases c2 : c = 99
  · rw [if_pos c2, if_pos c2, o_costOf _ hk x hx, bI_r]
  rw [if_neg c2, if_neg c2]
  by_cases c3 : c = 100
  · subst c3
    rfl
  rw [if_neg c3, if_neg (by omega), if_neg (by omega)]
  by_cases c4 : c = 103
  · rw [if_pos c4, if_pos c4]
  rw [if_neg c4, if_neg c4]
  by_cases c5 : c = 104
  · rw [if_pos c5, if_pos c5, o_heatOf _ hk x hx, bI_r]
  rw [if_neg c5, if_neg c5, if_neg (by omega), if_neg (by omega), if_neg (by omega)]
  by_cases c6 : c = 108
  · rw [if_pos c6, if_pos c6, c_X1_lovedBy _ hk g hg, bI_r, and_nn _ _ (by omega) (by omega), c_bc _ _ _ (by omega), bI_r]
  rw [if_neg c6, if_neg c6, if_neg (by omega)]
  by_cases c7 : c = 110
  · rw [if_pos c7, if_pos c7, c_bc _ _ _ (by omega), bI_r]
  rw [if_neg c7, if_neg c7, if_pos (by omega), if_pos (by omega), o_hoursOf _ hk x hx, bI_r]
theorem c_X9_result (d : Nat) (μ : jM) (c a b : Int) : CL (d + 1) 138 [jI c, jI a, jI b] μ = rI (resu c a b) μ := by
  rw [e_X9_result]
  unfold resu
  by_cases c1 : c = 42
  · rw [if_pos c1, if_pos c1]
  rw [if_neg c1, if_neg c1]
  by_cases c2 : c = 43
  · rw [if_pos c2, if_pos c2]
  rw [if_neg c2, if_neg c2]
  by_cases c3 : c = 45
  · rw [if_pos c3, if_pos c3]
  rw [if_neg c3, if_neg c3]
  by_cases c4 : c = 60
  · rw [if_pos c4, if_pos c4]
    by_cases z : a < b
    · rw [if_pos z, if_pos z]
    · rw [if_neg z, if_neg z]
  rw [if_neg c4, if_neg c4]
  by_cases c5 : c = 61
  · rw [if_pos c5, if_pos c5]
    by_cases z : a = b
    · rw [if_pos z, if_pos z]
    · rw [if_neg z, if_neg z]
  rw [if_neg c5, if_neg c5]
  by_cases c6 : c = 62
  · rw [if_pos c6, if_pos c6]
    by_cases z : b < a
    · rw [if_pos z, if_pos z]
    · rw [if_neg z, if_neg z]
  rw [if_neg c6, if_neg c6]
  by_cases z : b = 0
  · rw [if_pos z, if_pos z]
  · rw [if_neg z, if_neg z, gd_t z]
theorem stc_len (e : Int → Int) (s : List Int) (x : Int) : (stc e s x).length ≤ s.length + 1 := by
  unfold stc
  split
  · exact Nat.le_refl _
  · split
    · exact Nat.le_refl _
    · split
      · show s.tail.length + 1 ≤ _
        rw [List.length_tail]
        omega
      · show s.tail.tail.length + 1 ≤ _
        rw [List.length_tail, List.length_tail]
        omega
theorem runc_len (e : Int → Int) : ∀ (l s : List Int), (runc e l s).length ≤ s.length + l.length
  | [], s => Nat.le_refl _
  | x :: l, s => by
    have h1 := runc_len e l (stc e s x)
    have h2 := stc_len e s x
    show (runc e l (stc e s x)).length ≤ s.length + (l.length + 1)
    omega
theorem runc_take (e : Int → Int) (l : List Int) {i : Nat} (hi : i < l.length) : runc e (l.take (i + 1)) [] = stc e (runc e (l.take i) []) (l.getD i 0) := by
  rw [List.take_add_one, List.getElem?_eq_getElem hi, List.getD_eq_getElem?_getD, List.getElem?_eq_getElem hi, runc_app]
  rfl
theorem o_X9_of (d : Nat) {μ : jM} {k : Kt} {r : List Nat} (hk : KI μ k) (hr : TaC μ r) (g x : Nat) (hg : g < kg k) (hx : okx k x) : ∃ μ', CL (d + 4) 133 [jR 12, jR 3, jI g, jI x] μ = rI (joyv k r g x) μ' ∧ fT μ' μ := by
  obtain ⟨hn1, hn2⟩ := ruC_n hr.1
  have hcd := ruC_b hr.1.2.1
  have h1 := o_st hk.1 hx
  have h2 := hk.1.2.2.2 g hg
  rw [e_X9_of, hr.2.1]
  unfold joyv
  by_cases h0 : r.length = 0
  · have a2 := Nat.and_le_left (n := kst k x) (m := klo k g)
    have hz := hn2.mpr h0
    rw [if_pos (by omega), if_pos h0, c_X1_lovedBy _ hk g hg, bI_r, o_stuffsOf _ hk x hx, bI_r, and_nn _ _ (by omega) (by omega), Nat.and_comm, c_bc _ _ _ (by omega), bI_r]
    exact ⟨μ, rfl, fT_r μ⟩
  · have hz : (ruC r).length ≠ 0 := fun z => h0 (hn2.mp z)
    let l := ruC r
    have hll : l.length = (ruC r).length := rfl
    let S : Nat → List Int := fun i => runc (qual k g x) (l.take i) []
    have hS : ∀ i, (S i).length ≤ i := fun i => by
      have := runc_len (qual k g x) (l.take i) []
      have h3 : (l.take i).length ≤ i := by
        rw [List.length_take]
        omega
      have h4 : ([] : List Int).length = 0 := rfl
      show (runc (qual k g x) (l.take i) []).length ≤ i
      omega
    rw [if_neg (by omega), if_neg h0]
    obtain ⟨m, e1, f1, g1⟩ := lp_i (fun (i : Nat) (m : jM) => EV (d + 3) T_X9_of 1 [some (jR 12), some (jR 3), some (jI g), some (jI x), some (jI i), none, none] [] m) (fun i m => fT m μ ∧ SK m (S i)) l.length (fun i m hi hI => by
      obtain ⟨f, hs⟩ := hI
      have hkm := fT_KI f hk
      have hrm := fT_TaC f hr
      have hi40 : i < 40 := by omega
      have hsl := hS i
      have ec : m 13 (i : Int) = l.getD i 0 := hrm.2.2 i hi
      have hcr : 0 ≤ l.getD i 0 ∧ l.getD i 0 ≤ 2000 := hcd _ (by rw [List.getD_eq_getElem?_getD, List.getElem?_eq_getElem hi]; exact List.getElem_mem hi)
      have hst : S (i + 1) = stc (qual k g x) (S i) (l.getD i 0) := runc_take _ l hi
      show ∃ s', EV (d + 3) T_X9_of 1 [some (jR 12), some (jR 3), some (jI g), some (jI x), some (jI i), none, none] [] m = EV (d + 3) T_X9_of 1 [some (jR 12), some (jR 3), some (jI g), some (jI x), some (jI ((i + 1 : Nat) : Int)), none, none] [] s' ∧ fT s' μ ∧ SK s' (S (i + 1))
      rw [e_X9_of_1, hrm.2.1, if_pos (by omega), if_pos (by omega), gd_t (by omega), ec, w_s i (by omega), hst]
      unfold stc
      by_cases b1 : l.getD i 0 < 1000
      · obtain ⟨m2, e2, f2, s2⟩ := c_X9_push (d + 2) hs (by omega) (l.getD i 0)
        rw [if_pos b1, if_pos b1, e2, bV_r]
        exact ⟨m2, rfl, fT_t f f2, s2⟩
      · rw [if_neg b1, if_neg b1, w_id (x := l.getD i 0 - 1000) (by omega) (by omega), c_X9_isQuality, bI_r]
        cases hq : isq (l.getD i 0 - 1000) with
        | true =>
          obtain ⟨m2, e2, f2, s2⟩ := c_X9_push (d + 2) hs (by omega) (qual k g x (l.getD i 0 - 1000))
          rw [z_t, if_pos rfl, c_X9_quality _ hkm hg hx _ hq, bI_r, e2, bV_r]
          exact ⟨m2, rfl, fT_t f f2, s2⟩
        | false =>
          rw [z_f, if_neg (show ¬ (false = true) by decide)]
          by_cases b2 : l.getD i 0 = 1126
          · obtain ⟨m2, e2, f2, s2⟩ := c_X9_pop (d + 2) hs (by omega)
            obtain ⟨m3, e3, f3, s3⟩ := c_X9_push (d + 2) s2 (by rw [List.length_tail]; omega) (w32 (-(S i).headD 0))
            rw [if_pos b2, if_pos b2, e2, bI_r, e3, bV_r]
            exact ⟨m3, rfl, fT_t f (fT_t f2 f3), s3⟩
          · obtain ⟨m2, e2, f2, s2⟩ := c_X9_pop (d + 2) hs (by omega)
            obtain ⟨m3, e3, f3, s3⟩ := c_X9_pop (d + 2) s2 (by rw [List.length_tail]; omega)
            obtain ⟨m4, e4, f4, s4⟩ := c_X9_push (d + 2) s3 (by rw [List.length_tail, List.length_tail]; omega) (resu (l.getD i 0 - 1000) ((S i).tail.headD 0) ((S i).headD 0))
            rw [if_neg b2, if_neg b2, e2, bI_r, e3, bI_r, c_X9_result, bI_r, e4, bV_r]
            exact ⟨m4, rfl, fT_t f (fT_t f2 (fT_t f3 f4)), s4⟩) (jup μ 12 5 0) ⟨⟨fun q a _ => jup_ne a, fun j a => jup_m a⟩, jup_r _ _ _ _, fun j hj => absurd hj (Nat.not_lt_zero j)⟩
    have f1 : fT m μ := f1
    have g1 : SK m (S l.length) := g1
    have hSl : S l.length = runc (qual k g x) (ruC r) [] := by
      show runc _ (l.take l.length) [] = _
      rw [List.take_length]
    obtain ⟨m2, e2, f2, s2⟩ := c_X9_pop (d + 2) g1 (Nat.le_trans (hS _) hn1)
    have e1 : EV (d + 3) T_X9_of 1 [some (jR 12), some (jR 3), some (jI g), some (jI x), some (jI 0), none, none] [] (jup μ 12 5 0) = EV (d + 3) T_X9_of 1 [some (jR 12), some (jR 3), some (jI g), some (jI x), some (jI l.length), none, none] [] m := e1
    refine ⟨m2, ?_, fT_t f1 f2⟩
    rw [e1, e_X9_of_1, (fT_TaC f1 hr).2.1, if_neg (show ¬ ((ruC r).length : Int) < ((ruC r).length : Int) by omega), e2, bI_r, hSl]
theorem c_X9_of (d : Nat) {μ : jM} {k : Kt} {r : List Nat} (hk : KI μ k) (hr : TaC μ r) (g x : Nat) (hg : g < kg k) (hx : x < kn k) : ∃ μ', CL (d + 4) 133 [jR 12, jR 3, jI g, jI x] μ = rI (joyv k r g x) μ' ∧ fT μ' μ := o_X9_of d hk hr g x hg (Or.inl hx)
def jall (k : Kt) (r : List Nat) (x : Nat) : Int := sm (fun g => joyv k r g x) (kg k)
theorem jall_b {k : Kt} (h : Kok k) (r : List Nat) (x : Nat) : -5994 ≤ jall k r x ∧ jall k r x ≤ 5994 := by
  have h1 := sm_b (f := fun g => joyv k r g x) (B := 999) (kg k) (fun i _ => joyv_b k r i x)
  have h2 := h.2.1
  unfold jall
  omega
theorem o_X9_ofAll (d : Nat) {μ : jM} {k : Kt} {r : List Nat} (hk : KI μ k) (hr : TaC μ r) (x : Nat) (hx : okx k x) : ∃ μ', CL (d + 5) 134 [jR 12, jR 3, jI x] μ = rI (jall k r x) μ' ∧ fT μ' μ := by
  have h6 := hk.1.2.1
  rw [e_X9_ofAll]
  obtain ⟨m, e1, f1⟩ := lp_i (fun (g : Nat) (m : jM) => EV (d + 4) T_X9_ofAll 1 [some (jR 12), some (jR 3), some (jI x), some (jI (sm (fun g => joyv k r g x) g)), some (jI g)] [] m) (fun _ m => fT m μ) (kg k) (fun g m hg f => by
    have f : fT m μ := f
    obtain ⟨m2, e2, f2⟩ := o_X9_of d (fT_KI f hk) (fT_TaC f hr) g x hg hx
    have b1 := sm_b (f := fun g => joyv k r g x) (B := 999) g (fun i _ => joyv_b k r i x)
    have b2 := joyv_b k r g x
    refine ⟨m2, ?_, fT_t f f2⟩
    show EV (d + 4) T_X9_ofAll 1 _ [] m = _
    rw [e_X9_ofAll_1, e_X1_guests, (fT_KI f hk).2.2.1, bI_r, if_pos (by omega), e2, bI_r, w_s g (by omega), w_id (by omega) (by omega)]
    rfl) μ (fT_r μ)
  have f1 : fT m μ := f1
  refine ⟨m, ?_, f1⟩
  refine Eq.trans e1 ?_
  show EV (d + 4) T_X9_ofAll 1 [some (jR 12), some (jR 3), some (jI x), some (jI (sm (fun g => joyv k r g x) (kg k))), some (jI (kg k))] [] m = _
  rw [e_X9_ofAll_1, e_X1_guests, (fT_KI f1 hk).2.2.1, bI_r, if_neg (by omega)]
  rfl
theorem c_X9_ofAll (d : Nat) {μ : jM} {k : Kt} {r : List Nat} (hk : KI μ k) (hr : TaC μ r) (x : Nat) (hx : x < kn k) : ∃ μ', CL (d + 5) 134 [jR 12, jR 3, jI x] μ = rI (jall k r x) μ' ∧ fT μ' μ := o_X9_ofAll d hk hr x (Or.inl hx)
