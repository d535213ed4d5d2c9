/-! ## THE RULE: what its reading comes to -/
abbrev Rz : Type := Nat ⊕ (List Int × Nat)
def isq (x : Int) : Bool := decide (x = 98 ∨ x = 99 ∨ x = 100 ∨ x = 103 ∨ x = 104 ∨ x = 108 ∨ x = 110 ∨ x = 111)
theorem isq_i {x : Int} : isq x = true ↔ (x = 98 ∨ x = 99 ∨ x = 100 ∨ x = 103 ∨ x = 104 ∨ x = 108 ∨ x = 110 ∨ x = 111) := decide_eq_true_iff
theorem isq_n {x : Int} : isq x = false ↔ ¬ (x = 98 ∨ x = 99 ∨ x = 100 ∨ x = 103 ∨ x = 104 ∨ x = 108 ∨ x = 110 ∨ x = 111) := decide_eq_false_iff_not
def thg (c : Nat → Int) (PE : Nat → Rz) (n p : Nat) : Rz :=
  if c p = 40 then (if 0 < n then (match PE (p + 1) with
    | Sum.inl q => Sum.inl q
    | Sum.inr z => if c z.2 = 41 then Sum.inr (z.1, z.2 + 1) else Sum.inl z.2) else Sum.inl p)
  else if isd (c p) then Sum.inr ([(nmF c 3 0 p).1], (nmF c 3 0 p).2)
  else if isq (c p) then Sum.inr ([1000 + c p], p + 1) else Sum.inl p
def fcR (c : Nat → Int) (PE : Nat → Rz) (n : Nat) : Nat → Nat → Nat ⊕ (List Int × Nat × Bool)
  | 0, p => match thg c PE n p with
    | Sum.inl q => Sum.inl q
    | Sum.inr z => Sum.inr (z.1, z.2, false)
  | r + 1, p => if c p = 45 then (match fcR c PE n r (p + 1) with
      | Sum.inl q => Sum.inl q
      | Sum.inr z => Sum.inr (z.1, z.2.1, !z.2.2))
    else match thg c PE n p with
      | Sum.inl q => Sum.inl q
      | Sum.inr z => Sum.inr (z.1, z.2, false)
def ngt (l : List Int) (b : Bool) : List Int := if b then l ++ [1126] else l
def fct (c : Nat → Int) (PE : Nat → Rz) (n p : Nat) : Rz := match fcR c PE n (40 - p) p with
  | Sum.inl q => Sum.inl q
  | Sum.inr z => Sum.inr (ngt z.1 z.2.2, z.2.1)
def lpP (c : Nat → Int) (F : Nat → Rz) (o1 o2 : Int) : Nat → List Int → Nat → Rz
  | 0, l, p => Sum.inr (l, p)
  | r + 1, l, p => if c p = o1 ∨ c p = o2 then (match F (p + 1) with
      | Sum.inl q => Sum.inl q
      | Sum.inr z => lpP c F o1 o2 r (l ++ z.1 ++ [1000 + c p]) z.2) else Sum.inr (l, p)
def opP (c : Nat → Int) (F : Nat → Rz) (o1 o2 : Int) (p : Nat) : Rz := match F p with
  | Sum.inl q => Sum.inl q
  | Sum.inr z => lpP c F o1 o2 40 z.1 z.2
def cmpc (x : Int) : Prop := x = 60 ∨ x = 62 ∨ x = 61
def exE (c : Nat → Int) (S : Nat → Rz) (p : Nat) : Rz := match S p with
  | Sum.inl q => Sum.inl q
  | Sum.inr z => if c z.2 = 60 ∨ c z.2 = 62 ∨ c z.2 = 61 then (match S (z.2 + 1) with
      | Sum.inl q => Sum.inl q
      | Sum.inr y => Sum.inr (z.1 ++ y.1 ++ [1000 + c z.2], y.2)) else Sum.inr z
def pPro (c : Nat → Int) (PE : Nat → Rz) (n : Nat) : Nat → Rz := opP c (fct c PE n) 42 47
def pSum (c : Nat → Int) (PE : Nat → Rz) (n : Nat) : Nat → Rz := opP c (pPro c PE n) 43 45
def pExp (c : Nat → Int) (PE : Nat → Rz) (n : Nat) : Nat → Rz := exE c (pSum c PE n)
/-- an expression, with so many brackets that may still be opened -/
def pEx (c : Nat → Int) : Nat → Nat → Rz
  | 0 => pExp c (fun p => Sum.inl p) 0
  | n + 1 => pExp c (pEx c n) (n + 1)
/-- where a reading can end -/
def okR (N : Nat) (F : Nat → Rz) : Prop := ∀ p, p ≤ N → (∀ q, F p = Sum.inl q → p ≤ q ∧ q ≤ N) ∧ ∀ z, F p = Sum.inr z → p < z.2 ∧ z.2 ≤ N ∧ z.1.length + p ≤ z.2 ∧ 0 < z.1.length
theorem c_40 {N : Nat} {c : Nat → Int} (hc : ∀ i, N ≤ i → c i = -1) {p : Nat} (h : c p ≠ -1) : p < N := by
  rcases Nat.lt_or_ge p N with z | z
  · exact z
  · exact absurd (hc p z) h
theorem nmF_b {N : Nat} {c : Nat → Int} (hc : ∀ i, N ≤ i → c i = -1) : ∀ (r : Nat) (v : Int) (p : Nat), p ≤ N → r ≤ 3 → 0 ≤ v → v ≤ nb r → (nmF c r v p).2 ≤ N ∧ 0 ≤ (nmF c r v p).1 ∧ (nmF c r v p).1 ≤ 999
  | 0, v, p, hp, _, h0, hv => ⟨hp, h0, hv⟩
  | r + 1, v, p, hp, hr, h0, hv => by
    cases h : isd (c p) with
    | true =>
      have h1 := isd_i.mp h
      have l1 := c_40 hc (p := p) (by omega)
      have hvb : 10 * v + 9 ≤ nb r := by
        unfold nb at hv ⊢
        rcases (show r = 0 ∨ r = 1 ∨ r = 2 by omega) with rfl | rfl | rfl
        · have hv : v ≤ 99 := hv
          show 10 * v + 9 ≤ 999
          omega
        · have hv : v ≤ 9 := hv
          show 10 * v + 9 ≤ 99
          omega
        · have hv : v ≤ 0 := hv
          show 10 * v + 9 ≤ 9
          omega
      rw [nmF_y h]
      exact nmF_b hc r _ (p + 1) (by omega) (by omega) (by omega) (by omega)
    | false =>
      rw [nmF_n h]
      refine ⟨hp, h0, Int.le_trans hv ?_⟩
      unfold nb
      split <;> (try split) <;> (try split) <;> decide
theorem nmF_i {c : Nat → Int} {p : Nat} (h : isd (c p) = true) : p < (nmF c 3 0 p).2 := by
  rw [nmF_y h]
  have := nmF_le c 2 (10 * 0 + (c p - 48)) (p + 1)
  omega
theorem thg_ok {N : Nat} {c : Nat → Int} (hc : ∀ i, N ≤ i → c i = -1) {PE : Nat → Rz} (hP : okR N PE) (n : Nat) : okR N (thg c PE n) := fun p hp => by
  unfold thg
  by_cases h40 : c p = 40
  · have l1 := c_40 hc (p := p) (by omega)
    rw [if_pos h40]
    by_cases hn : 0 < n
    · rw [if_pos hn]
      obtain ⟨a, b⟩ := hP (p + 1) (by omega)
      cases hx : PE (p + 1) with
      | inl q =>
        obtain ⟨a1, a2⟩ := a q hx
        refine ⟨fun q' hq => ?_, fun z hz => by cases hz⟩
        cases hq
        exact ⟨by omega, a2⟩
      | inr y =>
        obtain ⟨b1, b2, b3, b4⟩ := b y hx
        show (∀ q, (if c y.2 = 41 then Sum.inr (y.1, y.2 + 1) else Sum.inl y.2 : Rz) = Sum.inl q → _) ∧ ∀ z, (if c y.2 = 41 then Sum.inr (y.1, y.2 + 1) else Sum.inl y.2 : Rz) = Sum.inr z → _
        by_cases h41 : c y.2 = 41
        · have l2 := c_40 hc (p := y.2) (by omega)
          rw [if_pos h41]
          refine ⟨fun q hq => (by cases hq), fun z hz => ?_⟩
          cases hz
          exact ⟨by show p < y.2 + 1; omega, by show y.2 + 1 ≤ N; omega, by show y.1.length + p ≤ y.2 + 1; omega, b4⟩
        · rw [if_neg h41]
          refine ⟨fun q hq => ?_, fun z hz => by cases hz⟩
          cases hq
          exact ⟨by omega, b2⟩
    · rw [if_neg hn]
      refine ⟨fun q hq => ?_, fun z hz => by cases hz⟩
      cases hq
      exact ⟨Nat.le_refl p, hp⟩
  · rw [if_neg h40]
    by_cases hd : isd (c p) = true
    · rw [if_pos hd]
      have h1 := nmF_i hd
      obtain ⟨h2, -, -⟩ := nmF_b hc 3 0 p hp (by decide) (by decide) (by decide)
      refine ⟨fun q hq => (by cases hq), fun z hz => ?_⟩
      cases hz
      exact ⟨h1, h2, by show 1 + p ≤ _; omega, Nat.succ_pos _⟩
    · rw [if_neg hd]
      by_cases hq : isq (c p) = true
      · have h1 := isq_i.mp hq
        have l1 := c_40 hc (p := p) (by omega)
        rw [if_pos hq]
        refine ⟨fun q hq => (by cases hq), fun z hz => ?_⟩
        cases hz
        exact ⟨by show p < p + 1; omega, by show p + 1 ≤ N; omega, by show 1 + p ≤ p + 1; omega, by show 0 < 1; decide⟩
      · rw [if_neg hq]
        refine ⟨fun q hq => ?_, fun z hz => by cases hz⟩
        cases hq
        exact ⟨Nat.le_refl p, hp⟩
theorem fcR_ok {N : Nat} {c : Nat → Int} (hc : ∀ i, N ≤ i → c i = -1) {PE : Nat → Rz} (hP : okR N PE) (n : Nat) : ∀ r p, p ≤ N → (∀ q, fcR c PE n r p = Sum.inl q → p ≤ q ∧ q ≤ N) ∧ ∀ z, fcR c PE n r p = Sum.inr z → p < z.2.1 ∧ z.2.1 ≤ N ∧ z.1.length + p + (if z.2.2 then 1 else 0) ≤ z.2.1 ∧ 0 < z.1.length := by
  have base : ∀ p, p ≤ N → (∀ q, (match thg c PE n p with
      | Sum.inl q => Sum.inl q
      | Sum.inr z => Sum.inr (z.1, z.2, false) : Nat ⊕ (List Int × Nat × Bool)) = Sum.inl q → p ≤ q ∧ q ≤ N) ∧ ∀ z, (match thg c PE n p with
      | Sum.inl q => Sum.inl q
      | Sum.inr z => Sum.inr (z.1, z.2, false) : Nat ⊕ (List Int × Nat × Bool)) = Sum.inr z → p < z.2.1 ∧ z.2.1 ≤ N ∧ z.1.length + p + (if z.2.2 then 1 else 0) ≤ z.2.1 ∧ 0 < z.1.length := fun p hp => by
    obtain ⟨a, b⟩ := thg_ok hc hP n p hp
    cases hx : thg c PE n p with
    | inl q =>
      refine ⟨fun q' hq => ?_, fun z hz => by cases hz⟩
      cases hq
      exact a q hx
    | inr y =>
      obtain ⟨b1, b2, b3, b4⟩ := b y hx
      refine ⟨fun q' hq => (by cases hq), fun z hz => ?_⟩
      cases hz
      exact ⟨b1, b2, b3, b4⟩
  intro r
  induction r with
  | zero => exact base
  | succ r ih =>
    intro p hp
    unfold fcR
    by_cases h45 : c p = 45
    · have l1 := c_40 hc (p := p) (by omega)
      rw [if_pos h45]
      obtain ⟨a, b⟩ := ih (p + 1) (by omega)
      cases hx : fcR c PE n r (p + 1) with
      | inl q =>
        obtain ⟨a1, a2⟩ := a q hx
        refine ⟨fun q' hq => ?_, fun z hz => by cases hz⟩
        cases hq
        exact ⟨by omega, a2⟩
      | inr y =>
        obtain ⟨b1, b2, b3, b4⟩ := b y hx
        refine ⟨fun q' hq => (by cases hq), fun z hz => ?_⟩
        cases hz
        refine ⟨by show p < y.2.1; omega, b2, ?_, b4⟩
        show y.1.length + p + (if (!y.2.2) = true then 1 else 0) ≤ y.2.1
        cases hy : y.2.2 with
        | true =>
          rw [hy] at b3
          simp at b3 ⊢
          omega
        | false =>
          rw [hy] at b3
          simp at b3 ⊢
          omega
    · rw [if_neg h45]
      exact base p hp
theorem fct_ok {N : Nat} {c : Nat → Int} (hc : ∀ i, N ≤ i → c i = -1) {PE : Nat → Rz} (hP : okR N PE) (n : Nat) : okR N (fct c PE n) := fun p hp => by
  obtain ⟨a, b⟩ := fcR_ok hc hP n (40 - p) p hp
  unfold fct
  cases hx : fcR c PE n (40 - p) p with
  | inl q =>
    refine ⟨fun q' hq => ?_, fun z hz => by cases hz⟩
    cases hq
    exact a q hx
  | inr y =>
    obtain ⟨b1, b2, b3, b4⟩ := b y hx
    refine ⟨fun q' hq => (by cases hq), fun z hz => ?_⟩
    cases hz
    refine ⟨b1, b2, ?_, ?_⟩
    · show (ngt y.1 y.2.2).length + p ≤ y.2.1
      unfold ngt
      cases hy : y.2.2 with
      | true =>
        rw [hy] at b3
        rw [if_pos rfl, List.length_append]
        simp at b3 ⊢
        omega
      | false =>
        rw [hy] at b3
        rw [if_neg (by decide)]
        simp at b3
        omega
    · show 0 < (ngt y.1 y.2.2).length
      unfold ngt
      split
      · rw [List.length_append]
        omega
      · exact b4
theorem lpP_ok {N : Nat} {c : Nat → Int} (hc : ∀ i, N ≤ i → c i = -1) {F : Nat → Rz} (hF : okR N F) {o1 o2 : Int} (h1 : o1 ≠ -1) (h2 : o2 ≠ -1) : ∀ (r : Nat) (l : List Int) (p p0 : Nat), p ≤ N → p0 < p → l.length + p0 ≤ p → 0 < l.length → (∀ q, lpP c F o1 o2 r l p = Sum.inl q → p0 ≤ q ∧ q ≤ N) ∧ ∀ z, lpP c F o1 o2 r l p = Sum.inr z → p0 < z.2 ∧ z.2 ≤ N ∧ z.1.length + p0 ≤ z.2 ∧ 0 < z.1.length := by
  intro r
  induction r with
  | zero =>
    intro l p p0 hp hp0 hl h0
    refine ⟨fun q hq => (by cases hq), fun z hz => ?_⟩
    cases hz
    exact ⟨hp0, hp, hl, h0⟩
  | succ r ih =>
    intro l p p0 hp hp0 hl h0
    unfold lpP
    by_cases ho : c p = o1 ∨ c p = o2
    · have l1 := c_40 hc (p := p) (by rcases ho with z | z <;> rw [z] <;> assumption)
      rw [if_pos ho]
      obtain ⟨a, b⟩ := hF (p + 1) (by omega)
      cases hx : F (p + 1) with
      | inl q =>
        obtain ⟨a1, a2⟩ := a q hx
        refine ⟨fun q' hq => ?_, fun z hz => by cases hz⟩
        cases hq
        exact ⟨by omega, a2⟩
      | inr y =>
        obtain ⟨b1, b2, b3, b4⟩ := b y hx
        exact ih (l ++ y.1 ++ [1000 + c p]) y.2 p0 b2 (by omega) (by rw [List.length_append, List.length_append]; show l.length + y.1.length + 1 + p0 ≤ y.2; omega) (by rw [List.length_append, List.length_append]; omega)
    · rw [if_neg ho]
      refine ⟨fun q hq => (by cases hq), fun z hz => ?_⟩
      cases hz
      exact ⟨hp0, hp, hl, h0⟩
theorem opP_ok {N : Nat} {c : Nat → Int} (hc : ∀ i, N ≤ i → c i = -1) {F : Nat → Rz} (hF : okR N F) {o1 o2 : Int} (h1 : o1 ≠ -1) (h2 : o2 ≠ -1) : okR N (opP c F o1 o2) := fun p hp => by
  obtain ⟨a, b⟩ := hF p hp
  unfold opP
  cases hx : F p with
  | inl q =>
    refine ⟨fun q' hq => ?_, fun z hz => by cases hz⟩
    cases hq
    exact a q hx
  | inr y =>
    obtain ⟨b1, b2, b3, b4⟩ := b y hx
    exact lpP_ok hc hF h1 h2 40 y.1 y.2 p b2 b1 b3 b4
theorem exE_ok {N : Nat} {c : Nat → Int} (hc : ∀ i, N ≤ i → c i = -1) {S : Nat → Rz} (hS : okR N S) : okR N (exE c S) := fun p hp => by
  obtain ⟨a, b⟩ := hS p hp
  unfold exE
  cases hx : S p with
  | inl q =>
    refine ⟨fun q' hq => ?_, fun z hz => by cases hz⟩
    cases hq
    exact a q hx
  | inr y =>
    obtain ⟨b1, b2, b3, b4⟩ := b y hx
    by_cases hcm : c y.2 = 60 ∨ c y.2 = 62 ∨ c y.2 = 61
    · have l1 := c_40 hc (p := y.2) (by omega)
      obtain ⟨a', b'⟩ := hS (y.2 + 1) (by omega)
      show (∀ q, (if c y.2 = 60 ∨ c y.2 = 62 ∨ c y.2 = 61 then _ else _ : Rz) = Sum.inl q → _) ∧ ∀ z, (if c y.2 = 60 ∨ c y.2 = 62 ∨ c y.2 = 61 then _ else _ : Rz) = Sum.inr z → _
      rw [if_pos hcm]
      cases hy : S (y.2 + 1) with
      | inl q =>
        obtain ⟨a1, a2⟩ := a' q hy
        refine ⟨fun q' hq => ?_, fun z hz => by cases hz⟩
        cases hq
        exact ⟨by omega, a2⟩
      | inr w =>
        obtain ⟨d1, d2, d3, d4⟩ := b' w hy
        refine ⟨fun q' hq => (by cases hq), fun z hz => ?_⟩
        cases hz
        refine ⟨by show p < w.2; omega, d2, ?_, ?_⟩
        · show (y.1 ++ w.1 ++ [1000 + c y.2]).length + p ≤ w.2
          rw [List.length_append, List.length_append]
          show y.1.length + w.1.length + 1 + p ≤ w.2
          omega
        · show 0 < (y.1 ++ w.1 ++ [1000 + c y.2]).length
          rw [List.length_append, List.length_append]
          omega
    · show (∀ q, (if c y.2 = 60 ∨ c y.2 = 62 ∨ c y.2 = 61 then _ else _ : Rz) = Sum.inl q → _) ∧ ∀ z, (if c y.2 = 60 ∨ c y.2 = 62 ∨ c y.2 = 61 then _ else _ : Rz) = Sum.inr z → _
      rw [if_neg hcm]
      refine ⟨fun q' hq => (by cases hq), fun z hz => ?_⟩
      cases hz
      exact ⟨b1, b2, b3, b4⟩
theorem pPro_ok {N : Nat} {c : Nat → Int} (hc : ∀ i, N ≤ i → c i = -1) {PE : Nat → Rz} (hP : okR N PE) (n : Nat) : okR N (pPro c PE n) := opP_ok hc (fct_ok hc hP n) (by decide) (by decide)
theorem pSum_ok {N : Nat} {c : Nat → Int} (hc : ∀ i, N ≤ i → c i = -1) {PE : Nat → Rz} (hP : okR N PE) (n : Nat) : okR N (pSum c PE n) := opP_ok hc (pPro_ok hc hP n) (by decide) (by decide)
theorem pExp_ok {N : Nat} {c : Nat → Int} (hc : ∀ i, N ≤ i → c i = -1) {PE : Nat → Rz} (hP : okR N PE) (n : Nat) : okR N (pExp c PE n) := exE_ok hc (pSum_ok hc hP n)
theorem ok_no {N : Nat} : okR N (fun p => Sum.inl p) := fun p hp => ⟨fun q hq => by cases hq; exact ⟨Nat.le_refl p, hp⟩, fun z hz => by cases hz⟩
theorem pEx_ok {N : Nat} {c : Nat → Int} (hc : ∀ i, N ≤ i → c i = -1) : ∀ n, okR N (pEx c n)
  | 0 => pExp_ok hc ok_no 0
  | n + 1 => pExp_ok hc (pEx_ok hc n) (n + 1)
/-! ## what codes come to -/
def resu (x a b : Int) : Int := if x = 42 then w32 (a * b) else if x = 43 then w32 (a + b) else if x = 45 then w32 (a - b) else if x = 60 then (if a < b then 1 else 0) else if x = 61 then (if a = b then 1 else 0) else if x = 62 then (if b < a then 1 else 0) else if b = 0 then 0 else jdiv a b
def stc (e : Int → Int) (s : List Int) (x : Int) : List Int := if x < 1000 then x :: s else if isq (x - 1000) then e (x - 1000) :: s else if x = 1126 then w32 (-s.headD 0) :: s.tail else resu (x - 1000) (s.tail.headD 0) (s.headD 0) :: s.tail.tail
def runc (e : Int → Int) (l s : List Int) : List Int := l.foldl (stc e) s
theorem runc_app (e : Int → Int) (l1 l2 s : List Int) : runc e (l1 ++ l2) s = runc e l2 (runc e l1 s) := List.foldl_append
def Den (e : Int → Int) (l : List Int) (v : Int) : Prop := (-2147483648 ≤ v ∧ v ≤ 2147483647) ∧ ∀ s, runc e l s = v :: s
theorem w32_b (x : Int) : -2147483648 ≤ w32 x ∧ w32 x ≤ 2147483647 := o_w32r x
theorem Den_num (e : Int → Int) {v : Int} (h0 : 0 ≤ v) (h : v ≤ 999) : Den e [v] v := ⟨by omega, fun s => by
  show stc e s v = _
  unfold stc
  rw [if_pos (by omega)]⟩
theorem Den_q (e : Int → Int) {x : Int} (h : isq x = true) (he : -2147483648 ≤ e x ∧ e x ≤ 2147483647) : Den e [1000 + x] (e x) := ⟨he, fun s => by
  have h1 := isq_i.mp h
  show stc e s (1000 + x) = _
  unfold stc
  rw [show 1000 + x - 1000 = x by omega, if_neg (by omega), if_pos h]⟩
theorem Den_neg {e : Int → Int} {l : List Int} {v : Int} (h : Den e l v) : Den e (l ++ [1126]) (w32 (-v)) := ⟨w32_b _, fun s => by
  rw [runc_app, h.2]
  show stc e (v :: s) 1126 = _
  unfold stc
  rw [if_neg (by decide), if_neg (by decide), if_pos rfl]
  rfl⟩
theorem jdiv_b (a b : Int) : -2147483648 ≤ jdiv a b ∧ jdiv a b ≤ 2147483647 := o_r32 _
theorem resu_b (x a b : Int) : -2147483648 ≤ resu x a b ∧ resu x a b ≤ 2147483647 := by
  have h1 := w32_b (a * b)
  have h2 := w32_b (a + b)
  have h3 := w32_b (a - b)
  have h4 := jdiv_b a b
  unfold resu
  repeat' split
  all_goals first | assumption | decide
def isop (x : Int) : Prop := x = 42 ∨ x = 43 ∨ x = 45 ∨ x = 47 ∨ x = 60 ∨ x = 61 ∨ x = 62
theorem Den_op {e : Int → Int} {l1 l2 : List Int} {v1 v2 : Int} (h1 : Den e l1 v1) (h2 : Den e l2 v2) {x : Int} (hx : isop x) : Den e (l1 ++ l2 ++ [1000 + x]) (resu x v1 v2) := ⟨resu_b _ _ _, fun s => by
  have hx2 := hx
  unfold isop at hx2
  have hq : isq x = false := isq_n.mpr (by omega)
  rw [runc_app, runc_app, h1.2, h2.2]
  show stc e (v2 :: v1 :: s) (1000 + x) = _
  unfold stc
  rw [show 1000 + x - 1000 = x by omega, if_neg (by omega), hq, if_neg (by decide), if_neg (by omega)]
  rfl⟩
theorem w32_nn {v : Int} (h : -2147483648 ≤ v ∧ v ≤ 2147483647) : w32 (-w32 (-v)) = v := by
  unfold w32
  rw [Int.bmod_def, Int.bmod_def]
  split <;> split <;> omega
