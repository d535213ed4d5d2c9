/-! ## counted from the front and from behind: the same -/
def nbI (k : Kt) (w : Lw) (A : Ap) : Nat → Nat → Nat → Nat → Int
  | _, 0, _, _ => 1
  | i, r + 1, s, l => sm (fun x => if stp k w A i s l x then nbI k w A (i + 1) r (s ||| 2 ^ x) x else 0) 10
def Ash (A : Ap) : Ap := fun i x => A (i + 1) x
theorem stp_sh (k : Kt) (w : Lw) (A : Ap) (i s l x : Nat) : stp k w (Ash A) i s l x = stp k w A (i + 1) s l x := rfl
theorem nbI_sh (k : Kt) (w : Lw) (A : Ap) : ∀ r i s l, nbI k w (Ash A) i r s l = nbI k w A (i + 1) r s l
  | 0, _, _, _ => rfl
  | r + 1, i, s, l => sm_cg 10 (fun x _ => by
    rw [stp_sh, nbI_sh k w A r (i + 1)])
theorem sm_add (f g : Nat → Int) : ∀ n, sm (fun i => f i + g i) n = sm f n + sm g n
  | 0 => rfl
  | n + 1 => by
    show sm (fun i => f i + g i) n + (f n + g n) = (sm f n + f n) + (sm g n + g n)
    rw [sm_add f g n]
    omega
theorem sm_com (f : Nat → Nat → Int) (m : Nat) : ∀ n, sm (fun i => sm (fun j => f i j) m) n = sm (fun j => sm (fun i => f i j) n) m
  | 0 => (sm_0 (n := m) (fun _ _ => rfl)).symm
  | n + 1 => by
    show sm (fun i => sm (fun j => f i j) m) n + sm (fun j => f n j) m = sm (fun j => sm (fun i => f i j) n + f n j) m
    rw [sm_com f m n, sm_add]
theorem sm_if (P : Prop) [Decidable P] (f : Nat → Int) (n : Nat) : (if P then sm f n else 0) = sm (fun i => if P then f i else 0) n := by
  by_cases h : P
  · rw [if_pos h]
    exact sm_cg n (fun i _ => (if_pos h).symm)
  · rw [if_neg h, sm_0 (fun i _ => if_neg h)]
theorem sm_one {f : Nat → Int} {i : Nat} : ∀ {n : Nat}, i < n → (∀ j, j < n → j ≠ i → f j = 0) → sm f n = f i
  | 0, h, _ => absurd h (Nat.not_lt_zero i)
  | n + 1, h, hz => by
    show sm f n + f n = f i
    by_cases e : i = n
    · rw [sm_0 (fun j hj => hz j (by omega) (by omega)), e]
      omega
    · rw [sm_one (show i < n by omega) (fun j hj => hz j (by omega)), hz n (by omega) (Ne.symm e)]
      omega
/-- the first step taken off -/
theorem nw_1 {k : Kt} (hk : Kok k) (w : Lw) (A : Ap) {s0 l0 : Nat} (h0 : Sok k s0 l0) : ∀ m s l, nw k w A s0 l0 (m + 1) s l = sm (fun x => if stp k w A 0 s0 l0 x then nw k w (Ash A) (s0 ||| 2 ^ x) x m s l else 0) 10
  | 0, s, l => by
    have h10 := hk.1
    have hl0 := Sok_10 hk h0
    show (if decide (l < kn k) && s.testBit l then sm (fun l' => if stp k w A 0 (nd s (2 ^ l)) l' l then (if nd s (2 ^ l) == s0 && l' == l0 then (1 : Int) else 0) else 0) 11 else 0) = sm (fun x => if stp k w A 0 s0 l0 x then (if s == s0 ||| 2 ^ x && l == x then (1 : Int) else 0) else 0) 10
    by_cases hc : stp k w A 0 s0 l0 l = true ∧ s = s0 ||| 2 ^ l
    · obtain ⟨h1, h2⟩ := hc
      have h3 := Bool.and_eq_true_iff.mp h1
      have hl : l < kn k := by simpa using h3.1
      have hb := may_nb (Bool.and_eq_true_iff.mp h3.2).2
      have hs : s.testBit l = true := by
        rw [h2]
        simp [Nat.testBit_or, Nat.testBit_two_pow]
      have hnd : nd s (2 ^ l) = s0 := by rw [h2]; exact or_nd hb
      rw [hs, decide_eq_true hl, hnd]
      rw [Bool.and_self, if_pos rfl, sm_one (i := l0) (by omega) (fun j _ hj => ?_), sm_one (i := l) (by omega) (fun j _ hj => ?_)]
      · rw [if_pos h1, if_pos h1, ← h2]
        simp
      · have : (l == j) = false := by simpa using Ne.symm hj
        rw [this, Bool.and_false]
        split <;> rfl
      · have : (j == l0) = false := by simpa using hj
        rw [this, Bool.and_false]
        split <;> rfl
    · have hR : sm (fun x => if stp k w A 0 s0 l0 x then (if s == s0 ||| 2 ^ x && l == x then (1 : Int) else 0) else 0) 10 = 0 := sm_0 (fun x _ => by
        cases hx : stp k w A 0 s0 l0 x with
        | false => rfl
        | true =>
          rw [if_pos rfl]
          cases hq : (s == s0 ||| 2 ^ x && l == x) with
          | false => rfl
          | true =>
            have h1 := Bool.and_eq_true_iff.mp hq
            have h2 : l = x := by simpa using h1.2
            have h3 : s = s0 ||| 2 ^ x := by simpa using h1.1
            exact absurd ⟨by rw [h2]; exact hx, by rw [h2]; exact h3⟩ hc)
      rw [hR]
      cases hq : (decide (l < kn k) && s.testBit l) with
      | false => rfl
      | true =>
        have h4 := (Bool.and_eq_true_iff.mp hq).2
        rw [if_pos rfl]
        exact sm_0 (fun l' _ => by
          cases hx : stp k w A 0 (nd s (2 ^ l)) l' l with
          | false => rfl
          | true =>
            rw [if_pos rfl]
            cases hq2 : (nd s (2 ^ l) == s0 && l' == l0) with
            | false => rfl
            | true =>
              have h1 := Bool.and_eq_true_iff.mp hq2
              have h2 : l' = l0 := by simpa using h1.2
              have h3 : nd s (2 ^ l) = s0 := by simpa using h1.1
              rw [h2, h3] at hx
              exact absurd ⟨hx, by rw [← h3, nd_or h4]⟩ hc)
  | m + 1, s, l => by
    have ih := nw_1 hk w A h0 m
    show (if decide (l < kn k) && s.testBit l then sm (fun l' => if stp k w A (m + 1) (nd s (2 ^ l)) l' l then nw k w A s0 l0 (m + 1) (nd s (2 ^ l)) l' else 0) 11 else 0) = sm (fun x => if stp k w A 0 s0 l0 x then (if decide (l < kn k) && s.testBit l then sm (fun l' => if stp k w (Ash A) m (nd s (2 ^ l)) l' l then nw k w (Ash A) (s0 ||| 2 ^ x) x m (nd s (2 ^ l)) l' else 0) 11 else 0) else 0) 10
    cases hq : (decide (l < kn k) && s.testBit l) with
    | false =>
      rw [if_neg (by decide)]
      exact (sm_0 (fun x _ => by split <;> rfl)).symm
    | true =>
      rw [if_pos rfl]
      have e1 : ∀ l', (if stp k w A (m + 1) (nd s (2 ^ l)) l' l then nw k w A s0 l0 (m + 1) (nd s (2 ^ l)) l' else 0) = sm (fun x => if stp k w A 0 s0 l0 x then (if stp k w A (m + 1) (nd s (2 ^ l)) l' l then nw k w (Ash A) (s0 ||| 2 ^ x) x m (nd s (2 ^ l)) l' else 0) else 0) 10 := fun l' => by
        rw [ih, sm_if]
        exact sm_cg 10 (fun x _ => by
          cases stp k w A (m + 1) (nd s (2 ^ l)) l' l <;> cases stp k w A 0 s0 l0 x <;> rfl)
      rw [sm_cg 11 (fun l' _ => e1 l'), sm_com]
      refine sm_cg 10 (fun x _ => ?_)
      show sm (fun l' => if stp k w A 0 s0 l0 x then (if stp k w A (m + 1) (nd s (2 ^ l)) l' l then nw k w (Ash A) (s0 ||| 2 ^ x) x m (nd s (2 ^ l)) l' else 0) else 0) 11 = if stp k w A 0 s0 l0 x then (if true = true then sm (fun l' => if stp k w (Ash A) m (nd s (2 ^ l)) l' l then nw k w (Ash A) (s0 ||| 2 ^ x) x m (nd s (2 ^ l)) l' else 0) 11 else 0) else 0
      rw [if_pos rfl, sm_if]
      rfl
theorem stp_Sok {k : Kt} (hk : Kok k) {w : Lw} {A : Ap} {i s l x : Nat} (hs : s < 2 ^ kn k) (h : stp k w A i s l x = true) : Sok k (s ||| 2 ^ x) x ∧ pc (s ||| 2 ^ x) = pc s + 1 := by
  have h3 := Bool.and_eq_true_iff.mp h
  have hx : x < kn k := by simpa using h3.1
  have hb := may_nb (Bool.and_eq_true_iff.mp h3.2).2
  refine ⟨⟨or_lt hs hx, Or.inr ⟨hx, by simp [Nat.testBit_or, Nat.testBit_two_pow]⟩⟩, pc_or1 (by have := hk.1; omega) hs hx hb⟩
theorem NW_nb {k : Kt} (hk : Kok k) (w : Lw) : ∀ n (A : Ap) (s0 l0 : Nat), Sok k s0 l0 → NW k w A s0 l0 n (2 ^ kn k) = nbI k w A 0 n s0 l0
  | 0, A, s0, l0, h0 => by
    have hl0 := Sok_10 hk h0
    unfold NW
    rw [sm_one (i := s0) h0.1 (fun a _ ha => ?_)]
    · rw [if_pos (show pc s0 = pc s0 + 0 from rfl), sm_one (i := l0) (by omega) (fun l _ hl => ?_)]
      · rw [nwr_0, if_pos rfl]
        rfl
      · rw [nwr_0, if_neg hl]
    · by_cases hp : pc a = pc s0 + 0
      · rw [if_pos hp]
        refine sm_0 (fun l _ => ?_)
        unfold nwr
        rw [hp, Nat.add_zero, Nat.sub_self]
        show (if a == s0 && l == l0 then (1 : Int) else 0) = 0
        have : (a == s0) = false := by simpa using ha
        rw [this, Bool.false_and]
        rfl
      · rw [if_neg hp]
  | n + 1, A, s0, l0, h0 => by
    have e1 : ∀ a, (if pc a = pc s0 + (n + 1) then sm (fun l => nwr k w A s0 l0 a l) 11 else 0) = sm (fun x => if stp k w A 0 s0 l0 x then (if pc a = pc (s0 ||| 2 ^ x) + n then sm (fun l => nwr k w (Ash A) (s0 ||| 2 ^ x) x a l) 11 else 0) else 0) 10 := fun a => by
      by_cases hp : pc a = pc s0 + (n + 1)
      · rw [if_pos hp]
        have e2 : ∀ l, nwr k w A s0 l0 a l = sm (fun x => if stp k w A 0 s0 l0 x then nw k w (Ash A) (s0 ||| 2 ^ x) x n a l else 0) 10 := fun l => by
          unfold nwr
          rw [hp, Nat.add_sub_cancel_left]
          exact nw_1 hk w A h0 n a l
        rw [sm_cg 11 (fun l _ => e2 l), sm_com]
        refine sm_cg 10 (fun x _ => ?_)
        cases hx : stp k w A 0 s0 l0 x with
        | false => exact sm_0 (fun _ _ => rfl)
        | true =>
          have hpc := (stp_Sok hk h0.1 hx).2
          rw [if_pos rfl, if_pos (by omega)]
          refine sm_cg 11 (fun l _ => ?_)
          unfold nwr
          rw [if_pos rfl, hpc, hp, show pc s0 + (n + 1) - (pc s0 + 1) = n by omega]
      · rw [if_neg hp]
        exact (sm_0 (fun x _ => by
          cases hx : stp k w A 0 s0 l0 x with
          | false => rfl
          | true =>
            have hpc := (stp_Sok hk h0.1 hx).2
            rw [if_pos rfl, if_neg (by omega)])).symm
    unfold NW
    rw [sm_cg (2 ^ kn k) (fun a _ => e1 a), sm_com]
    show _ = sm (fun x => if stp k w A 0 s0 l0 x then nbI k w A (0 + 1) n (s0 ||| 2 ^ x) x else 0) 10
    refine sm_cg 10 (fun x _ => ?_)
    cases hx : stp k w A 0 s0 l0 x with
    | false => exact sm_0 (fun _ _ => rfl)
    | true =>
      have hS := (stp_Sok hk h0.1 hx).1
      rw [if_pos rfl, ← nbI_sh, ← NW_nb hk w n (Ash A) (s0 ||| 2 ^ x) x hS]
      unfold NW
      exact sm_cg _ (fun a _ => if_pos rfl)
theorem nbI_ge (k : Kt) (w : Lw) (A : Ap) : ∀ r i s l, 0 ≤ nbI k w A i r s l
  | 0, _, _, _ => by
    show (0 : Int) ≤ 1
    decide
  | r + 1, i, s, l => sm_ge (fun x _ => by
    show 0 ≤ (if stp k w A i s l x then nbI k w A (i + 1) r (s ||| 2 ^ x) x else 0)
    split
    · exact nbI_ge k w A r _ _ _
    · exact Int.le_refl 0)
/-- one at a place alone -/
def Aat (A : Ap) (p d : Nat) : Ap := fun i x => if i = p then A i x && x == d else A i x
theorem Aat_ne (A : Ap) (p d : Nat) {i : Nat} (h : i ≠ p) (k : Kt) (w : Lw) (s l x : Nat) : stp k w (Aat A p d) i s l x = stp k w A i s l x := by
  unfold stp Aat
  rw [if_neg h]
theorem nbI_hi (k : Kt) (w : Lw) (A : Ap) (p d : Nat) : ∀ r i s l, p < i → nbI k w (Aat A p d) i r s l = nbI k w A i r s l
  | 0, _, _, _, _ => rfl
  | r + 1, i, s, l, h => sm_cg 10 (fun x _ => by rw [Aat_ne A p d (by omega), nbI_hi k w A p d r (i + 1) _ _ (by omega)])
theorem nbI_at (k : Kt) (hk : Kok k) (w : Lw) (A : Ap) (p : Nat) : ∀ r i s l, i ≤ p → p < i + r → nbI k w A i r s l = sm (fun d => nbI k w (Aat A p d) i r s l) 10
  | 0, i, s, l, h1, h2 => by omega
  | r + 1, i, s, l, h1, h2 => by
    show sm (fun x => if stp k w A i s l x then nbI k w A (i + 1) r (s ||| 2 ^ x) x else 0) 10 = sm (fun d => sm (fun x => if stp k w (Aat A p d) i s l x then nbI k w (Aat A p d) (i + 1) r (s ||| 2 ^ x) x else 0) 10) 10
    rw [sm_com]
    refine sm_cg 10 (fun x hx => ?_)
    by_cases e : i = p
    · subst e
      rw [sm_one (i := x) hx (fun d _ hd => ?_)]
      · rw [nbI_hi k w A i x r (i + 1) _ _ (by omega)]
        have : stp k w (Aat A i x) i s l x = stp k w A i s l x := by
          unfold stp Aat
          rw [if_pos rfl]
          simp
        rw [this]
      · have : stp k w (Aat A i d) i s l x = false := by
          unfold stp Aat
          rw [if_pos rfl]
          have : (x == d) = false := by simpa using Ne.symm hd
          rw [this]
          simp
        rw [this]
        rfl
    · rw [nbI_at k hk w A p r (i + 1) _ _ (by omega) (by omega), sm_if]
      exact sm_cg 10 (fun d _ => by rw [Aat_ne A p d e])
