theorem j1_spec (i : Instr) (a b : Nat) (lv : jLs) (st : jSt) (μ : jM) : (∀ k, j1 i a b lv st μ k = none) ∨ ∃ (lv' : jLs) (st' : jSt) (μ' : jM), ∀ k, j1 i a b lv st μ k = k lv' st' μ' := by
  unfold j1
  split <;> (try unfold gd) <;> (repeat' (first | (simp only [cond_true, cond_false]) | split | (simp only [Bool.cond_eq_ite]))) <;> first | exact Or.inl (fun _ => trivial) | exact Or.inl (fun _ => rfl) | exact Or.inr ⟨_, _, _, fun _ => rfl⟩
def jX : Type := Option jO ⊕ (Nat × jLs × jSt × jM)
def jXr (J : Nat → jLs → jSt → jM → Option jO) (x : Option jO ⊕ (Nat × jLs × jSt × jM)) : Option jO := match x with
  | Sum.inl o => o
  | Sum.inr q => J q.1 q.2.1 q.2.2.1 q.2.2.2
theorem jXr_l (J : Nat → jLs → jSt → jM → Option jO) (o : Option jO) : jXr J (Sum.inl o) = o := rfl
/-- a piece of code ends, or jumps: to where, its own start alone says -/
theorem jB_spec (C : Nat → jSt → jM → Option jO) : ∀ (n : Nat) (is : List jIn) (lv : jLs) (st : jSt) (μ : jM), ∃ x : Option jO ⊕ (Nat × jLs × jSt × jM), ∀ J, jB J C n is lv st μ = jXr J x
  | 0, _, _, _, _ => ⟨Sum.inl none, fun _ => rfl⟩
  | _ + 1, [], _, _, _ => ⟨Sum.inl none, fun _ => rfl⟩
  | n + 1, (i, a, b, c, h, pc) :: is, lv, st, μ => by
    have ih := jB_spec C n
    have two : ∀ (P : Prop) [Decidable P] (f g : (Nat → jLs → jSt → jM → Option jO) → Option jO), (∃ x, ∀ J, f J = jXr J x) → (∃ x, ∀ J, g J = jXr J x) → ∃ x, ∀ J, (if P then f J else g J) = jXr J x := by
      intro P _ f g hf hg
      by_cases hP : P
      · obtain ⟨x, hx⟩ := hf
        exact ⟨x, fun J => by rw [if_pos hP]; exact hx J⟩
      · obtain ⟨x, hx⟩ := hg
        exact ⟨x, fun J => by rw [if_neg hP]; exact hx J⟩
    have cnd : ∀ (q : Bool) (f g : (Nat → jLs → jSt → jM → Option jO) → Option jO), (∃ x, ∀ J, f J = jXr J x) → (∃ x, ∀ J, g J = jXr J x) → ∃ x, ∀ J, (bif q then f J else g J) = jXr J x := by
      intro q f g hf hg
      cases q
      · exact hg
      · exact hf
    have jmp : ∀ (L : Nat) (lv : jLs) (st : jSt) (μ : jM), ∃ x, ∀ J : Nat → jLs → jSt → jM → Option jO, J L lv st μ = jXr J x := fun L lv st μ => ⟨Sum.inr (L, lv, st, μ), fun _ => rfl⟩
    have non : ∀ o : Option jO, ∃ x, ∀ J : Nat → jLs → jSt → jM → Option jO, o = jXr J x := fun o => ⟨Sum.inl o, fun _ => rfl⟩
    have tgt : ∀ (lv : jLs) (st : jSt) (μ : jM), ∃ x, ∀ J, (bif Nat.beq a 0 then jB J C n (is.drop b) lv st μ else J b lv st μ) = jXr J x := fun lv st μ => cnd _ _ _ (ih _ _ _ _) (jmp _ _ _ _)
    have jcs : ∀ (q : ClassFile.Cond) (x y : Int) (f g : (Nat → jLs → jSt → jM → Option jO) → Option jO), (∃ x, ∀ J, f J = jXr J x) → (∃ x, ∀ J, g J = jXr J x) → ∃ z, ∀ J, jc q x y (f J) (g J) = jXr J z := by
      intro q x y f g hf hg
      cases q
      · exact two _ _ _ hf hg
      · exact two _ _ _ hg hf
      · exact two _ _ _ hf hg
      · exact two _ _ _ hg hf
      · exact two _ _ _ hf hg
      · exact two _ _ _ hg hf
    have rets : ∀ (r : Nat) (o : Option jO) (st : jSt) (f : (Nat → jLs → jSt → jM → Option jO) → jSt → jM → Option jO), (∀ st μ, ∃ x, ∀ J, f J st μ = jXr J x) → ∃ x, ∀ J, jret r o st (f J) = jXr J x := by
      intro r o st f hf
      match r with
      | 0 =>
        show ∃ x, ∀ J, bV o (fun μ => f J st μ) = jXr J x
        unfold bV
        split
        · exact hf _ _
        · exact non _
      | 1 =>
        show ∃ x, ∀ J, bI o (fun x μ => f J (jI x :: st) μ) = jXr J x
        unfold bI
        split
        · exact hf _ _
        · exact non _
      | _ + 2 =>
        show ∃ x, ∀ J, bL o (fun x μ => f J (jL x :: st) μ) = jXr J x
        unfold bL
        split
        · exact hf _ _
        · exact non _
    have sws : ∀ (x d : Int) (l : List (Int × Int)) (st : jSt), ∃ z, ∀ J, jsw (fun t => jB J C n (is.drop t.toNat) lv st μ) d x l = jXr J z := by
      intro x d l st
      induction l with
      | nil => exact ih _ _ _ _
      | cons q l il =>
        show ∃ z, ∀ J, (if x = q.1 then jB J C n (is.drop q.2.toNat) lv st μ else jsw (fun t => jB J C n (is.drop t.toNat) lv st μ) d x l) = jXr J z
        exact two _ _ _ (ih _ _ _ _) il
    unfold jB
    split
    · exact jmp _ _ _ _
    · exact tgt _ _ _
    · split
      · exact jcs _ _ _ _ _ (tgt _ _ _) (ih _ _ _ _)
      · exact non _
    · split
      · exact jcs _ _ _ _ _ (tgt _ _ _) (ih _ _ _ _)
      · exact non _
    · split
      · exact sws _ _ _ _
      · exact non _
    · refine cnd _ _ _ ?_ (non _)
      split
      · exact cnd _ _ _ (rets _ _ _ _ (fun st μ => ih _ _ _ _)) (non _)
      · exact non _
    · exact cnd _ _ _ (rets _ _ _ _ (fun st μ => ih _ _ _ _)) (non _)
    · exact non _
    · exact non _
    · exact non _
    · exact non _
    · rcases j1_spec i a b lv st μ with hk | ⟨lv', st', μ', hk⟩
      · exact ⟨Sum.inl none, fun J => hk _⟩
      · obtain ⟨x, hx⟩ := ih is lv' st' μ'
        exact ⟨x, fun J => (hk _).trans (hx J)⟩
theorem jstep_spec (T : jT) (C : Nat → jSt → jM → Option jO) (L : Nat) (lv : jLs) (st : jSt) (μ : jM) : ∃ x : Option jO ⊕ (Nat × jLs × jSt × jM), ∀ J, jstep T C J L lv st μ = jXr (fun L' lv' st' μ' => J L' (jlive T L' lv') st' μ') x := by
  obtain ⟨x, hx⟩ := jB_spec C 400 (jcode T L) lv st μ
  exact ⟨x, fun J => hx _⟩
theorem jn_up (T : jT) (C : Nat → jSt → jM → Option jO) : ∀ (n L : Nat) (lv : jLs) (st : jSt) (μ : jM) (o : jO), jn T C n L lv st μ = some o → jn T C (n + 1) L lv st μ = some o
  | 0, _, _, _, _, _, h => by cases h
  | n + 1, L, lv, st, μ, o, h => by
    obtain ⟨x, hx⟩ := jstep_spec T C L lv st μ
    have h1 : jn T C (n + 1) L lv st μ = jXr _ x := hx (jn T C n)
    have h2 : jn T C (n + 1 + 1) L lv st μ = jXr _ x := hx (jn T C (n + 1))
    rw [h2]
    rw [h1] at h
    cases x with
    | inl r => exact h
    | inr q => exact jn_up T C n _ _ _ _ _ h
theorem jn_le (T : jT) (C : Nat → jSt → jM → Option jO) {n k L : Nat} {lv : jLs} {st : jSt} {μ : jM} {o : jO} (hk : n ≤ k) (h : jn T C n L lv st μ = some o) : jn T C k L lv st μ = some o := by
  induction hk with
  | refl => exact h
  | step _ ih => exact jn_up T C _ _ _ _ _ _ ih
theorem EVc_iff (T : jT) (C : Nat → jSt → jM → Option jO) (L : Nat) (lv : jLs) (st : jSt) (μ : jM) (o : jO) : EVc T C L lv st μ = some o ↔ ∃ n, jn T C n L lv st μ = some o := by
  unfold EVc
  constructor
  · intro h
    by_cases hx : ∃ (n : Nat) (o : jO), jn T C n L lv st μ = some o
    · rw [dif_pos hx] at h
      refine ⟨Classical.choose hx, ?_⟩
      rw [← h]
      exact Classical.choose_spec (Classical.choose_spec hx)
    · rw [dif_neg hx] at h
      cases h
  · rintro ⟨n, hn⟩
    have hx : ∃ (n : Nat) (o : jO), jn T C n L lv st μ = some o := ⟨n, o, hn⟩
    rw [dif_pos hx]
    have h2 := Classical.choose_spec (Classical.choose_spec hx)
    have e1 := jn_le T C (Nat.le_max_left n (Classical.choose hx)) hn
    have e2 := jn_le T C (Nat.le_max_right n (Classical.choose hx)) h2
    rw [← e1, ← e2]
theorem EVc_eq (T : jT) (C : Nat → jSt → jM → Option jO) (L : Nat) (lv : jLs) (st : jSt) (μ : jM) : EVc T C L lv st μ = jstep T C (EVc T C) L lv st μ := by
  apply Option.ext
  intro o
  rw [EVc_iff]
  obtain ⟨x, hx⟩ := jstep_spec T C L lv st μ
  rw [hx]
  constructor
  · rintro ⟨n, hn⟩
    cases n with
    | zero => cases hn
    | succ n =>
      have h1 : jn T C (n + 1) L lv st μ = jXr _ x := hx (jn T C n)
      rw [h1] at hn
      cases x with
      | inl r => exact hn
      | inr q => exact (EVc_iff T C _ _ _ _ _).mpr ⟨n, hn⟩
  · intro h
    cases x with
    | inl r =>
      refine ⟨1, ?_⟩
      have h1 : jn T C 1 L lv st μ = jXr _ (Sum.inl r) := hx (jn T C 0)
      rw [h1]
      exact h
    | inr q =>
      obtain ⟨n, hn⟩ := (EVc_iff T C _ _ _ _ _).mp h
      refine ⟨n + 1, ?_⟩
      have h1 : jn T C (n + 1) L lv st μ = jXr _ (Sum.inr q) := hx (jn T C n)
      rw [h1]
      exact hn
/-- calls, at most d deep; MT: the methods -/
noncomputable def jCL (MT : List (jT × Nat)) : Nat → Nat → jSt → jM → Option jO
  | 0 => fun _ _ _ => none
  | d + 1 => fun n args μ => match MT[n]? with
    | some q => bif args.all (fun v => !jisL (some v)) && Nat.ble args.length q.2 then EVc q.1 (jCL MT d) 0 (args.map some ++ List.replicate (q.2 - args.length) none) [] μ else none
    | none => none
