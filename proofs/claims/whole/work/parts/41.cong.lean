/-! ## rows that are the same -/
theorem fs_cg {P Q : Nat → Bool} {n : Nat} (h : ∀ i, i < n → P i = Q i) : fs P n = fs Q n := by
  obtain ⟨p1, p2, p3⟩ := fs_spec P n
  obtain ⟨q1, q2, q3⟩ := fs_spec Q n
  by_cases h1 : fs P n < fs Q n
  · have a := p3 (by omega)
    have b := q2 _ h1
    rw [← h _ (by omega), a] at b
    cases b
  · by_cases h2 : fs Q n < fs P n
    · have a := q3 (by omega)
      have b := p2 _ h2
      rw [h _ (by omega), a] at b
      cases b
    · omega
theorem crp {S S' : Nat → Nat → Nat → Bool} {G G' : Nat → Nat → Bool} (Q : Nat → Nat → Prop) (hS : ∀ s l x, Q s l → S s l x = S' s l x) (hQ : ∀ s l x, Q s l → S s l x = true → Q (s ||| 2 ^ x) x) (hG : ∀ s l, Q s l → G s l = G' s l) : ∀ r s l, Q s l → cr S G r s l = cr S' G' r s l ∧ (cr S G r s l = true → pth S G r s l = pth S' G' r s l)
  | 0, s, l, hq => ⟨hG s l hq, fun _ => rfl⟩
  | r + 1, s, l, hq => by
    have ih := crp Q hS hQ hG r
    have step : ∀ x, (S s l x && cr S G r (s ||| 2 ^ x) x) = (S' s l x && cr S' G' r (s ||| 2 ^ x) x) := fun x => by
      rw [← hS s l x hq]
      cases h : S s l x with
      | false => rfl
      | true => rw [(ih _ _ (hQ s l x hq h)).1]
    refine ⟨anb_cg (fun x _ => step x), fun hc => ?_⟩
    have e : fs (fun x => S s l x && cr S G r (s ||| 2 ^ x) x) 10 = fs (fun x => S' s l x && cr S' G' r (s ||| 2 ^ x) x) 10 := fs_cg (fun x _ => step x)
    have hf := (fs_anb (fun x => S s l x && cr S G r (s ||| 2 ^ x) x) 10).mpr hc
    have h3 := Bool.and_eq_true_iff.mp ((fs_spec (fun x => S s l x && cr S G r (s ||| 2 ^ x) x) 10).2.2 hf)
    have h4 := (ih _ _ (hQ s l _ hq h3.1)).2 h3.2
    show fs _ 10 :: pth S G r _ _ = fs _ 10 :: pth S' G' r _ _
    rw [h4, e]
theorem crp_rr {k : Kt} (hk : Kok k) {w : Lw} {A : Ap} {s0 l0 : Nat} (h0 : Sok k s0 l0) {G G' : Nat → Nat → Bool} (hG : ∀ s l, rr k w A s0 l0 s l = true → G s l = G' s l) (r : Nat) : cr (SS k w A s0) G r s0 l0 = cr (SS k w A s0) G' r s0 l0 ∧ (cr (SS k w A s0) G r s0 l0 = true → pth (SS k w A s0) G r s0 l0 = pth (SS k w A s0) G' r s0 l0) :=
  crp (fun s l => rr k w A s0 l0 s l = true) (fun _ _ _ _ => rfl) (fun _ _ _ h h2 => (rr_go hk h0 h h2).1) hG r s0 l0 (by rw [rr_0]; simp)
/-- what may come matters of what there is alone -/
theorem stp_A {k : Kt} (w : Lw) {A A' : Ap} (h : ∀ i x, x < kn k → A i x = A' i x) : stp k w A = stp k w A' := by
  funext i s l x
  unfold stp
  by_cases hx : x < kn k
  · rw [h i x hx]
  · simp [hx]
theorem rc_A {k : Kt} (w : Lw) {A A' : Ap} (h : ∀ i x, x < kn k → A i x = A' i x) (s0 l0 : Nat) : ∀ m s l, rc k w A s0 l0 m s l = rc k w A' s0 l0 m s l
  | 0, _, _ => rfl
  | m + 1, s, l => by
    show ((_ && _) && anb _ 11) = ((_ && _) && anb _ 11)
    rw [anb_cg (fun l' _ => by rw [rc_A w h s0 l0 m, stp_A w h])]
theorem rr_A {k : Kt} (w : Lw) {A A' : Ap} (h : ∀ i x, x < kn k → A i x = A' i x) (s0 l0 : Nat) : rr k w A s0 l0 = rr k w A' s0 l0 := by
  funext s l
  exact rc_A w h s0 l0 _ s l
theorem SS_A {k : Kt} (w : Lw) {A A' : Ap} (h : ∀ i x, x < kn k → A i x = A' i x) (s0 : Nat) : SS k w A s0 = SS k w A' s0 := by
  funext s l x
  unfold SS
  rw [stp_A w h]
theorem BestP_A {k : Kt} {w : Lw} {A A' : Ap} (h : ∀ i x, x < kn k → A i x = A' i x) {s0 l0 : Nat} {Gp : Nat → Nat → Bool} {v : Nat → Int} {g : Int} {m : Nat} {row : List Nat} (hb : BestP k w A s0 l0 Gp v g m row) : BestP k w A' s0 l0 Gp v g m row := by
  unfold BestP at hb ⊢
  rw [SS_A w h] at hb
  exact hb
/-- from one DISH on -/
def A1 (f : Nat) : Ap := fun i x => if i = 0 then x == f else true
theorem A1_S {k : Kt} {w : Lw} {f s l x : Nat} (hs : s < 2 ^ kn k) (hk : Kok k) (hn : s ≠ 0) : SS k w (A1 f) 0 s l x = SS k w (fun _ _ => true) 0 s l x := by
  have h10 := hk.1
  have : pc s ≠ 0 := fun z => by
    apply hn
    apply Nat.eq_of_testBit_eq
    intro i
    rw [Nat.zero_testBit]
    by_cases hi : i < 10
    · cases hb : s.testBit i with
      | false => rfl
      | true =>
        have hs10 : s < 2 ^ 10 := Nat.lt_of_lt_of_le hs (p2_le h10)
        have h1 : nd s (2 ^ i) < 2 ^ 10 := nd_lt2 hs10
        have h2 : (nd s (2 ^ i)).testBit i = false := by
          rw [nd_tb, Nat.testBit_two_pow]
          simp
        have h3 := pc_or1 (n := 10) (by decide) h1 hi h2
        rw [nd_or hb] at h3
        omega
    · exact tb_hi hs (by omega)
  unfold SS stp A1
  rw [if_neg (by rw [show pc 0 = 0 from rfl]; omega)]
theorem pc_n0 {s : Nat} (hs : s < 1024) (hn : s ≠ 0) : 0 < pc s := by
  by_cases h : pc s = 0
  · refine absurd ?_ hn
    apply Nat.eq_of_testBit_eq
    intro i
    rw [Nat.zero_testBit]
    by_cases hi : i < 10
    · cases hb : s.testBit i with
      | false => rfl
      | true =>
        have hs10 : s < 2 ^ 10 := hs
        have h1 : nd s (2 ^ i) < 2 ^ 10 := nd_lt2 hs10
        have h2 : (nd s (2 ^ i)).testBit i = false := by
          rw [nd_tb, Nat.testBit_two_pow]
          simp
        have h3 := pc_or1 (n := 10) (by decide) h1 hi h2
        rw [nd_or hb] at h3
        omega
    · exact tb_hi (n := 10) hs (by omega)
  · omega
theorem or_ne0 (s x : Nat) : s ||| 2 ^ x ≠ 0 := fun z => by
  have := Nat.testBit_or s (2 ^ x) x
  rw [z, Nat.testBit_two_pow, Nat.zero_testBit] at this
  simp at this
/-- the first step is the one -/
theorem A1_cr {k : Kt} (hk : Kok k) {w : Lw} {f : Nat} (hf : f < kn k) {G : Nat → Nat → Bool} (r : Nat) : cr (SS k w (A1 f) 0) G (r + 1) 0 10 = (may k w 0 10 f && cr (SS k w (fun _ _ => true) 0) G r (2 ^ f) f) ∧ (cr (SS k w (A1 f) 0) G (r + 1) 0 10 = true → pth (SS k w (A1 f) 0) G (r + 1) 0 10 = f :: pth (SS k w (fun _ _ => true) 0) G r (2 ^ f) f) := by
  have h10 := hk.1
  have hin := crp (S := SS k w (A1 f) 0) (S' := SS k w (fun _ _ => true) 0) (G := G) (G' := G) (fun s _ => s < 2 ^ kn k ∧ s ≠ 0) (fun s l x h => A1_S h.1 hk h.2) (fun s l x h h2 => ⟨or_lt h.1 (SS_i h2).1, or_ne0 s x⟩) (fun _ _ _ => rfl) r (2 ^ f) f ⟨Nat.pow_lt_pow_right (by decide) hf, Nat.pos_iff_ne_zero.mp (Nat.two_pow_pos f)⟩
  have step : ∀ x, (SS k w (A1 f) 0 0 10 x && cr (SS k w (A1 f) 0) G r (0 ||| 2 ^ x) x) = (x == f && (may k w 0 10 f && cr (SS k w (fun _ _ => true) 0) G r (2 ^ f) f)) := fun x => by
    by_cases hx : x = f
    · subst hx
      rw [Nat.zero_or, hin.1]
      unfold SS stp A1
      rw [if_pos (by decide), decide_eq_true hf]
      simp
    · have e1 : (x == f) = false := by simpa using hx
      have e2 : SS k w (A1 f) 0 0 10 x = false := by
        unfold SS stp A1
        rw [if_pos (by decide), e1]
        simp
      rw [e1, e2, Bool.false_and, Bool.false_and]
  have hc : cr (SS k w (A1 f) 0) G (r + 1) 0 10 = (may k w 0 10 f && cr (SS k w (fun _ _ => true) 0) G r (2 ^ f) f) := by
    rw [cr_s, anb_cg (fun x _ => step x)]
    cases hm : (may k w 0 10 f && cr (SS k w (fun _ _ => true) 0) G r (2 ^ f) f) with
    | true => exact anb_iff.mpr ⟨f, by omega, by simp⟩
    | false =>
      cases hz : anb (fun x => x == f && false) 10 with
      | false => rfl
      | true =>
        obtain ⟨x, -, h2⟩ := anb_iff.mp hz
        rw [Bool.and_false] at h2
        cases h2
  refine ⟨hc, fun ht => ?_⟩
  have hm := ht
  rw [hc, Bool.and_eq_true] at hm
  have e : fs (fun x => SS k w (A1 f) 0 0 10 x && cr (SS k w (A1 f) 0) G r (0 ||| 2 ^ x) x) 10 = f := by
    rw [fs_cg (fun x _ => step x), hm.1, hm.2]
    obtain ⟨p1, p2, p3⟩ := fs_spec (fun x => x == f && (true && true)) 10
    have h4 : fs (fun x => x == f && (true && true)) 10 < 10 := (fs_anb _ _).mpr (anb_iff.mpr ⟨f, by omega, by simp⟩)
    have := p3 h4
    simpa using this
  show fs _ 10 :: pth _ G r (0 ||| 2 ^ fs _ 10) (fs _ 10) = _
  rw [e, Nat.zero_or, hin.2 (by rw [hin.1]; exact hm.2)]
theorem sall {k : Kt} {x : Nat} (hx : x < kn k) : (2 ^ kn k - 1).testBit x = true := by
  rw [Nat.testBit_two_pow_sub_one]
  simpa using hx
theorem sall_A {k : Kt} : ∀ (i x : Nat), x < kn k → (fun (_ : Nat) (x : Nat) => (2 ^ kn k - 1).testBit x) i x = (fun (_ _ : Nat) => true) i x := fun _ _ hx => sall hx
theorem rc_s (k : Kt) (w : Lw) (A : Ap) (s0 l0 m s l : Nat) : rc k w A s0 l0 (m + 1) s l = ((decide (l < kn k) && s.testBit l) && anb (fun l' => rc k w A s0 l0 m (nd s (2 ^ l)) l' && stp k w A m (nd s (2 ^ l)) l' l) 11) := rfl
/-- the first of a row that is bound to one -/
theorem A1_in {k : Kt} (hk : Kok k) {w : Lw} {f : Nat} : ∀ m s l, rc k w (A1 f) 0 10 (m + 1) s l = true → s.testBit f = true ∧ (l = f → m = 0)
  | 0, s, l, h => by
    rw [rc_s, Bool.and_eq_true, Bool.and_eq_true, decide_eq_true_eq] at h
    obtain ⟨l', -, h9⟩ := anb_iff.mp h.2
    rw [Bool.and_eq_true] at h9
    have h2 : l = f := by
      have := h9.2
      unfold stp A1 at this
      rw [if_pos rfl, Bool.and_eq_true, Bool.and_eq_true] at this
      simpa using this.2.1
    rw [← h2]
    exact ⟨h.1.2, fun _ => rfl⟩
  | m + 1, s, l, h => by
    rw [rc_s, Bool.and_eq_true, Bool.and_eq_true, decide_eq_true_eq] at h
    obtain ⟨l', -, h9⟩ := anb_iff.mp h.2
    rw [Bool.and_eq_true] at h9
    have ih := A1_in hk m _ _ h9.1
    have h3 := ih.1
    rw [nd_tb, Bool.and_eq_true, Nat.testBit_two_pow] at h3
    refine ⟨h3.1, fun z => ?_⟩
    rw [z] at h3
    simp at h3
