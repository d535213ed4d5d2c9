/-! ## MENUS filled: what is said of them -/
/-- what a MENU lets come at a place -/
def Am (m : List Nat) : Ap := fun i x => m.getD i 10 == 10 || m.getD i 10 == x
theorem cr_nb (k : Kt) (w : Lw) (A : Ap) : ∀ r i s l, pc s = i → s < 2 ^ kn k → Kok k → (decide (0 < nbI k w A i r s l) = cr (SS k w A 0) (fun _ _ => true) r s l)
  | 0, _, _, _, _, _, _ => rfl
  | r + 1, i, s, l, hi, hs, hk => by
    have ih : ∀ x, stp k w A i s l x = true → decide (0 < nbI k w A (i + 1) r (s ||| 2 ^ x) x) = cr (SS k w A 0) (fun _ _ => true) r (s ||| 2 ^ x) x := fun x hx => by
      have := stp_Sok hk hs hx
      exact cr_nb k w A r (i + 1) _ x (by omega) this.1.1 hk
    have eS : ∀ x, SS k w A 0 s l x = stp k w A i s l x := fun x => by
      unfold SS
      rw [hi, show pc 0 = 0 from rfl, Nat.sub_zero]
    rw [cr_s]
    show decide (0 < sm (fun x => if stp k w A i s l x then nbI k w A (i + 1) r (s ||| 2 ^ x) x else 0) 10) = _
    cases ha : anb (fun x => SS k w A 0 s l x && cr (SS k w A 0) (fun _ _ => true) r (s ||| 2 ^ x) x) 10 with
    | true =>
      obtain ⟨x, hx, h2⟩ := anb_iff.mp ha
      rw [Bool.and_eq_true, eS] at h2
      rw [decide_eq_true_eq]
      refine sm_pos (i := x) ?_ (fun y _ => ?_) hx
      · rw [if_pos h2.1]
        have := ih x h2.1
        rw [h2.2, decide_eq_true_eq] at this
        exact this
      · show 0 ≤ (if stp k w A i s l y then nbI k w A (i + 1) r (s ||| 2 ^ y) y else 0)
        split
        · exact nbI_ge k w A r _ _ _
        · exact Int.le_refl 0
    | false =>
      rw [decide_eq_false_iff_not, sm_0 (fun x hx => ?_)]
      · decide
      · cases hst : stp k w A i s l x with
        | false => rfl
        | true =>
          have h3 := anb_f ha hx
          have h4 := ih x hst
          rw [eS, hst, Bool.true_and] at h3
          rw [h3, decide_eq_false_iff_not] at h4
          have := nbI_ge k w A r (i + 1) (s ||| 2 ^ x) x
          rw [if_pos rfl]
          omega
/-- the rows of a length, as the class seeks them -/
theorem crG {k : Kt} (hk : Kok k) {w : Lw} {A : Ap} (n : Nat) : ∀ r s l, pc s + r = n → s < 2 ^ kn k → (cr (SS k w A 0) (fun s _ => decide (pc s = n)) r s l = cr (SS k w A 0) (fun _ _ => true) r s l) ∧ (cr (SS k w A 0) (fun _ _ => true) r s l = true → pth (SS k w A 0) (fun s _ => decide (pc s = n)) r s l = pth (SS k w A 0) (fun _ _ => true) r s l)
  | 0, s, l, h, _ => ⟨decide_eq_true (by omega), fun _ => rfl⟩
  | r + 1, s, l, h, hs => by
    have step : ∀ x, (SS k w A 0 s l x && cr (SS k w A 0) (fun s _ => decide (pc s = n)) r (s ||| 2 ^ x) x) = (SS k w A 0 s l x && cr (SS k w A 0) (fun _ _ => true) r (s ||| 2 ^ x) x) := fun x => by
      cases hx : SS k w A 0 s l x with
      | false => rfl
      | true =>
        obtain ⟨h1, h2⟩ := SS_stt hk hs hx
        rw [(crG hk n r _ x (by omega) h1.1).1]
    refine ⟨anb_cg (fun x _ => step x), fun hc => ?_⟩
    have e : fs (fun x => SS k w A 0 s l x && cr (SS k w A 0) (fun s _ => decide (pc s = n)) r (s ||| 2 ^ x) x) 10 = fs (fun x => SS k w A 0 s l x && cr (SS k w A 0) (fun _ _ => true) r (s ||| 2 ^ x) x) 10 := fs_cg (fun x _ => step x)
    have hf := (fs_anb (fun x => SS k w A 0 s l x && cr (SS k w A 0) (fun _ _ => true) r (s ||| 2 ^ x) x) 10).mpr hc
    have h3 := Bool.and_eq_true_iff.mp ((fs_spec (fun x => SS k w A 0 s l x && cr (SS k w A 0) (fun _ _ => true) r (s ||| 2 ^ x) x) 10).2.2 hf)
    obtain ⟨h1, h2⟩ := SS_stt hk hs h3.1
    have h4 := (crG hk n r _ _ (by omega) h1.1).2 h3.2
    show fs _ 10 :: pth _ _ r _ _ = fs _ 10 :: pth _ _ r _ _
    rw [e, h4]
/-- one at a place is reached that way -/
theorem rc_at {k : Kt} {w : Lw} {A : Ap} {s0 l0 p d : Nat} : ∀ m s l, m ≤ p → rc k w (Aat A p d) s0 l0 m s l = rc k w A s0 l0 m s l
  | 0, _, _, _ => rfl
  | m + 1, s, l, h => by
    rw [rc_s, rc_s, anb_cg (fun l' _ => by rw [rc_at m (nd s (2 ^ l)) l' (by omega), Aat_ne A p d (show m ≠ p by omega)])]
theorem cr_at {k : Kt} (hk : Kok k) {w : Lw} {A : Ap} {p d : Nat} {G : Nat → Nat → Bool} : ∀ r s l, p < pc s → s < 2 ^ kn k → cr (SS k w (Aat A p d) 0) G r s l = cr (SS k w A 0) G r s l
  | 0, _, _, _, _ => rfl
  | r + 1, s, l, h, hs => by
    rw [cr_s, cr_s]
    refine anb_cg (fun x _ => ?_)
    have e : SS k w (Aat A p d) 0 s l x = SS k w A 0 s l x := Aat_ne A p d (by rw [show pc 0 = 0 from rfl]; omega) k w s l x
    rw [e]
    cases hx : SS k w A 0 s l x with
    | false => rfl
    | true =>
      obtain ⟨h1, h2⟩ := SS_stt hk hs hx
      rw [cr_at hk r _ x (by omega) h1.1]
theorem cr_split {k : Kt} (hk : Kok k) {w : Lw} {A : Ap} {G : Nat → Nat → Bool} : ∀ (i j r s l : Nat), rc k w A 0 10 j s l = true → cr (SS k w A 0) G (i + r) s l = true → ∃ t y, rc k w A 0 10 (j + i) t y = true ∧ cr (SS k w A 0) G r t y = true
  | 0, j, r, s, l, h, hc => ⟨s, l, h, by rw [Nat.zero_add] at hc; exact hc⟩
  | i + 1, j, r, s, l, h, hc => by
    have h10 := hk.1
    rw [show i + 1 + r = (i + r) + 1 by omega, cr_s] at hc
    obtain ⟨x, hx, h2⟩ := anb_iff.mp hc
    rw [Bool.and_eq_true] at h2
    have hst := rc_ok hk (Sok_0 k) _ _ _ h
    obtain ⟨h3, h4⟩ := SS_stt hk hst.1.1 h2.1
    have hxk := (SS_i h2.1).1
    have hl := Sok_10 hk hst.1
    have hnx : rc k w A 0 10 (j + 1) (s ||| 2 ^ x) x = true := by
      have hb := (SS_i h2.1).2.2.2
      rw [rc_s, or_nd hb, decide_eq_true hxk]
      have : (s ||| 2 ^ x).testBit x = true := by simp [Nat.testBit_or, Nat.testBit_two_pow]
      rw [this, Bool.and_self, Bool.true_and]
      refine anb_iff.mpr ⟨l, by omega, ?_⟩
      rw [h, Bool.true_and]
      have e := h2.1
      unfold SS at e
      rw [hst.2, show pc 0 = 0 from rfl, Nat.zero_add, Nat.sub_zero] at e
      exact e
    obtain ⟨t, y, h5, h6⟩ := cr_split hk i (j + 1) r _ x hnx h2.2
    exact ⟨t, y, by rw [show j + (i + 1) = j + 1 + i by omega]; exact h5, h6⟩
/-- x is at place p in some row of n -/
theorem at_iff {k : Kt} (hk : Kok k) {w : Lw} {A : Ap} {n p x : Nat} (hp : p < n) : cr (SS k w (Aat A p x) 0) (fun _ _ => true) n 0 10 = true ↔ ∃ t, rc k w A 0 10 (p + 1) t x = true ∧ cr (SS k w A 0) (fun _ _ => true) (n - (p + 1)) t x = true := by
  constructor
  · intro hc
    obtain ⟨t, y, h1, h2⟩ := cr_split hk (p + 1) 0 (n - (p + 1)) 0 10 (by simp [rc]) (by rw [show p + 1 + (n - (p + 1)) = n by omega]; exact hc)
    rw [Nat.zero_add] at h1
    have hst := rc_ok hk (Sok_0 k) _ _ _ h1
    rw [rc_s, Bool.and_eq_true] at h1
    obtain ⟨l', hl', h3⟩ := anb_iff.mp h1.2
    rw [Bool.and_eq_true] at h3
    have hyx : y = x := by
      have := h3.2
      unfold stp Aat at this
      rw [if_pos rfl, Bool.and_eq_true, Bool.and_eq_true, Bool.and_eq_true] at this
      simpa using this.2.1.2
    subst hyx
    refine ⟨t, ?_, ?_⟩
    · rw [rc_s, h1.1, Bool.true_and]
      refine anb_iff.mpr ⟨l', hl', ?_⟩
      rw [rc_at p _ _ (Nat.le_refl p)] at h3
      rw [h3.1, Bool.true_and]
      have := h3.2
      unfold stp Aat at this
      rw [if_pos rfl] at this
      unfold stp
      rw [Bool.and_eq_true, Bool.and_eq_true, Bool.and_eq_true] at this
      rw [this.1, this.2.1.1, this.2.2]
      rfl
    · rw [cr_at hk _ _ _ (by rw [hst.2, show pc 0 = 0 from rfl]; omega) hst.1.1] at h2
      exact h2
  · rintro ⟨t, h1, h2⟩
    have hst := rc_ok hk (Sok_0 k) _ _ _ h1
    have h3 : rc k w (Aat A p x) 0 10 (p + 1) t x = true := by
      rw [rc_s, Bool.and_eq_true] at h1
      obtain ⟨l', hl', h4⟩ := anb_iff.mp h1.2
      rw [Bool.and_eq_true] at h4
      rw [rc_s, h1.1, Bool.true_and]
      refine anb_iff.mpr ⟨l', hl', ?_⟩
      rw [rc_at p _ _ (Nat.le_refl p), h4.1, Bool.true_and]
      have := h4.2
      unfold stp at this
      unfold stp Aat
      rw [if_pos rfl]
      rw [Bool.and_eq_true, Bool.and_eq_true] at this
      rw [this.1, this.2.1, this.2.2]
      simp
    have h4 : cr (SS k w (Aat A p x) 0) (fun _ _ => true) (n - (p + 1)) t x = true := by
      rw [cr_at hk _ _ _ (by rw [hst.2, show pc 0 = 0 from rfl]; omega) hst.1.1]
      exact h2
    have := rc_cr hk (Sok_0 k) (G := fun _ _ => true) (p + 1) h3 h4
    rw [show p + 1 + (n - (p + 1)) = n by omega] at this
    exact this
/-- what is sure at a place -/
def sur (k : Kt) (w : Lw) (A : Ap) (n p : Nat) : Nat := if 0 < nbI k w A 0 n 0 10 then bm (fun x => decide (nbI k w (Aat A p x) 0 n 0 10 = nbI k w A 0 n 0 10)) 10 else 0
theorem sm_all {f : Nat → Int} {n i : Nat} (hi : i < n) (hf : ∀ j, j < n → 0 ≤ f j) (h : f i = sm f n) : ∀ j, j < n → j ≠ i → f j = 0 := by
  intro j hj hne
  have h1 := hf j hj
  by_cases hz : f j = 0
  · exact hz
  · exfalso
    -- the sum is more than these two
    have key : ∀ n, i < n → j < n → (∀ x, x < n → 0 ≤ f x) → f i + f j ≤ sm f n := by
      intro n
      induction n with
      | zero => intro h; omega
      | succ n ih =>
        intro hi hj hf
        show f i + f j ≤ sm f n + f n
        have hn := hf n (by omega)
        by_cases e1 : i = n
        · by_cases e2 : j = n
          · omega
          · have : f j ≤ sm f n := by
              have := sm_one (f := fun x => if x = j then f j else 0) (i := j) (n := n) (by omega) (fun x _ hx => if_neg hx)
              have hle : sm (fun x => if x = j then f j else 0) n ≤ sm f n := by
                have : ∀ m, m ≤ n → sm (fun x => if x = j then f j else 0) m ≤ sm f m := by
                  intro m
                  induction m with
                  | zero => exact fun _ => Int.le_refl 0
                  | succ m ih2 =>
                    intro hm
                    have a := ih2 (by omega)
                    have b := hf m (by omega)
                    show sm _ m + (if m = j then f j else 0) ≤ sm f m + f m
                    split
                    · rename_i hmj
                      rw [hmj] at a ⊢
                      omega
                    · omega
                exact this n (Nat.le_refl n)
              rw [this, if_pos rfl] at hle
              exact hle
            rw [e1]
            omega
        · by_cases e2 : j = n
          · have : f i ≤ sm f n := by
              have := sm_one (f := fun x => if x = i then f i else 0) (i := i) (n := n) (by omega) (fun x _ hx => if_neg hx)
              have hle : sm (fun x => if x = i then f i else 0) n ≤ sm f n := by
                have : ∀ m, m ≤ n → sm (fun x => if x = i then f i else 0) m ≤ sm f m := by
                  intro m
                  induction m with
                  | zero => exact fun _ => Int.le_refl 0
                  | succ m ih2 =>
                    intro hm
                    have a := ih2 (by omega)
                    have b := hf m (by omega)
                    show sm _ m + (if m = i then f i else 0) ≤ sm f m + f m
                    split
                    · rename_i hmj
                      rw [hmj] at a ⊢
                      omega
                    · omega
                exact this n (Nat.le_refl n)
              rw [this, if_pos rfl] at hle
              exact hle
            rw [e2]
            omega
          · have := ih (by omega) (by omega) (fun x hx => hf x (by omega))
            omega
    have := key n hi hj hf
    omega
theorem pc_zero {s : Nat} (hs : s < 1024) : pc s = 0 ↔ s = 0 := by
  constructor
  · intro h
    by_cases hz : s = 0
    · exact hz
    · have := pc_n0 hs hz
      omega
  · intro h
    rw [h]
    rfl
/-- one bit alone is what is sure -/
theorem sur_eq {k : Kt} (hk : Kok k) (w : Lw) (A : Ap) {n p : Nat} (hp : p < n) (b : Nat) (hb : b < 1024) (hbt : ∀ x, x < 10 → b.testBit x = decide (0 < nbI k w (Aat A p x) 0 n 0 10)) (hc : 0 < nbI k w A 0 n 0 10) : (if pc b = 1 then b else 0) = sur k w A n p := by
  have hs := nbI_at k hk w A p n 0 0 10 (Nat.zero_le _) (by omega)
  have hge : ∀ j, j < 10 → 0 ≤ nbI k w (Aat A p j) 0 n 0 10 := fun j _ => nbI_ge k w _ n _ _ _
  unfold sur
  rw [if_pos hc]
  have hb0 : b ≠ 0 := fun z => by
    rw [hs, sm_0 (fun j hj => ?_)] at hc
    · omega
    · have := hbt j hj
      rw [z, Nat.zero_testBit] at this
      have h2 := hge j hj
      have h3 : ¬ 0 < nbI k w (Aat A p j) 0 n 0 10 := by
        intro z2
        rw [decide_eq_true z2] at this
        cases this
      omega
  have hex : ∃ i, i < 10 ∧ b.testBit i = true := by
    cases ha : anb (fun i => b.testBit i) 10 with
    | true =>
      obtain ⟨i, h1, h2⟩ := anb_iff.mp ha
      exact ⟨i, h1, h2⟩
    | false =>
      exfalso
      apply hb0
      apply Nat.eq_of_testBit_eq
      intro i
      rw [Nat.zero_testBit]
      by_cases hi : i < 10
      · exact anb_f ha hi
      · exact tb_hi (n := 10) hb (by omega)
  obtain ⟨i, hi, hbi⟩ := hex
  have hnd : nd b (2 ^ i) < 1024 := nd_lt2 hb
  have hpcb : pc b = pc (nd b (2 ^ i)) + 1 := by
    have h1 : (nd b (2 ^ i)).testBit i = false := by
      rw [nd_tb, Nat.testBit_two_pow]
      simp
    have := pc_or1 (n := 10) (by decide) (show nd b (2 ^ i) < 2 ^ 10 from hnd) hi h1
    rw [nd_or hbi] at this
    exact this
  have hni : 0 < nbI k w (Aat A p i) 0 n 0 10 := by
    have := hbt i hi
    rw [hbi] at this
    simpa using this.symm
  by_cases h1 : pc b = 1
  · rw [if_pos h1]
    have hz : nd b (2 ^ i) = 0 := (pc_zero hnd).mp (by omega)
    have hbeq : ∀ x, b.testBit x = decide (x = i) := fun x => by
      by_cases hxi : x = i
      · rw [hxi, hbi]
        simp
      · have h2 := nd_tb b (2 ^ i) x
        rw [hz, Nat.zero_testBit, Nat.testBit_two_pow] at h2
        have h3 : ¬ i = x := fun z => hxi z.symm
        simp [h3] at h2
        rw [h2]
        simp [hxi]
    have hzero : ∀ j, j < 10 → j ≠ i → nbI k w (Aat A p j) 0 n 0 10 = 0 := fun j hj hne => by
      have h2 := hbt j hj
      rw [hbeq j] at h2
      have h3 : ¬ 0 < nbI k w (Aat A p j) 0 n 0 10 := fun z => by
        rw [decide_eq_true z] at h2
        simp [hne] at h2
      have := hge j hj
      omega
    have htot : nbI k w A 0 n 0 10 = nbI k w (Aat A p i) 0 n 0 10 := by
      rw [hs]
      exact sm_one hi (fun j hj hne => hzero j hj hne)
    apply Nat.eq_of_testBit_eq
    intro x
    rw [bm_tb, hbeq x]
    by_cases hxi : x = i
    · rw [hxi, htot]
      simp [hi]
    · by_cases hx : x < 10
      · rw [hzero x hx hxi]
        have : ¬ (0 : Int) = nbI k w A 0 n 0 10 := by omega
        simp [hxi, this]
      · simp [hxi, hx]
  · rw [if_neg h1]
    symm
    refine bm_no 10 (fun x hx => ?_)
    rw [decide_eq_false_iff_not]
    intro heq
    have hall := sm_all (f := fun d => nbI k w (Aat A p d) 0 n 0 10) hx hge (by rw [← hs]; exact heq)
    -- then x is the only one
    have hxi : x = i := by
      by_cases e : x = i
      · exact e
      · have := hall i hi (Ne.symm e)
        have h5 : nbI k w (Aat A p i) 0 n 0 10 = 0 := this
        omega
    subst hxi
    apply h1
    have : nd b (2 ^ x) = 0 := by
      apply Nat.eq_of_testBit_eq
      intro y
      rw [nd_tb, Nat.zero_testBit, Nat.testBit_two_pow]
      by_cases hyx : y = x
      · rw [hyx]
        simp
      · by_cases hy : y < 10
        · rw [hbt y hy, show nbI k w (Aat A p y) 0 n 0 10 = 0 from hall y hy hyx]
          rfl
        · rw [tb_hi (n := 10) hb (by omega)]
          rfl
    rw [hpcb, this]
    rfl
