/-! ## greedy: the class -/
def xq (k : Kt) : Kt := (kn k, kg k, fun d => if d < kn k then kst k d else 0, fun d => if d < kn k then kco k d else 0, fun d => if d < kn k then khe k d else 0, fun d => if d < kn k then kho k d else 0, klo k, kba k)
theorem xq_st {k : Kt} {x : Nat} (h : x < kn k) : kst (xq k) x = kst k x := if_pos h
theorem xq_co {k : Kt} {x : Nat} (h : x < kn k) : kco (xq k) x = kco k x := if_pos h
theorem xq_he {k : Kt} {x : Nat} (h : x < kn k) : khe (xq k) x = khe k x := if_pos h
theorem xq_ho {k : Kt} {x : Nat} (h : x < kn k) : kho (xq k) x = kho k x := if_pos h
theorem xq_ok {k : Kt} (h : Kok k) : Kok (xq k) := ⟨h.1, h.2.1, fun d hd => by
  have hd : d < kn k := hd
  rw [xq_st hd, xq_co hd, xq_he hd, xq_ho hd]
  exact h.2.2.1 d hd, h.2.2.2⟩
theorem xq_KI {μ : jM} {k : Kt} (h : KI μ k) : KI μ (xq k) := ⟨xq_ok h.1, h.2.1, h.2.2.1, fun d hd => by
  have hd : d < kn k := hd
  rw [xq_st hd, xq_co hd, xq_he hd, xq_ho hd]
  exact h.2.2.2.1 d hd, h.2.2.2.2.1, fun s hs => by
  have e : khs (xq k) s = khs k s := bm_cg (n := kn k) (fun i hi => by
    show (kst (xq k) i).testBit s = (kst k i).testBit s
    rw [xq_st hi])
  rw [e]
  exact h.2.2.2.2.2 s hs⟩
theorem xq_x (k : Kt) (x : Nat) : okx (xq k) x := by
  by_cases h : x < kn k
  · exact Or.inl h
  · exact Or.inr ⟨h, if_neg h, if_neg h, if_neg h, if_neg h⟩
theorem xq_j {k : Kt} {x : Nat} (h : x < kn k) (r : List Nat) (g : Nat) : joyv (xq k) r g x = joyv k r g x := by
  have e : qual (xq k) g x = qual k g x := funext fun c => by
    unfold qual
    rw [xq_st h, xq_co h, xq_he h, xq_ho h]
    rfl
  unfold joyv
  rw [e, xq_st h]
  rfl
theorem xq_ja {k : Kt} {x : Nat} (h : x < kn k) (r : List Nat) : jall (xq k) r x = jall k r x := sm_cg (kg k) (fun g _ => xq_j h r g)
theorem y_t {α : Type} {a b : α} : (if (if true = true then (1 : Int) else 0) = 1 then a else b) = a := if_pos rfl
theorem y_f {α : Type} {a b : α} : (if (if false = true then (1 : Int) else 0) = 1 then a else b) = b := if_neg (by decide)
def mjd (P : Nat → Bool) (f : Nat → Int) (n : Nat) : Nat := if lfo P f n = 10 then 0 else lfo P f n
theorem c_X3_mostJoyful (d : Nat) (μ : jM) (b : Nat) (hb : b < 1024) : CL (d + 1) 56 [jR 47, jI b] μ = rI (mjd (fun x => b.testBit x) (fun x => -(μ 49 (x : Int))) 10 : Nat) μ := by
  let f : Nat → Int := fun x => -(μ 49 (x : Int))
  let P : Nat → Bool := fun x => b.testBit x
  rw [e_X3_mostJoyful]
  refine Eq.trans ?_ ((lp_0 (fun i : Nat => EV d T_X3_mostJoyful 1 [some (jR 47), some (jI b), some (jI (mjd P f i : Nat)), some (jI i), none] [] μ) 10 (fun i hi => ?_)).trans ?_)
  · rfl
  · have el : lfo P f (i + 1) = if P i && (lfo P f i == 10 || decide (f i < f (lfo P f i))) then i else lfo P f i := rfl
    obtain ⟨l1, l2⟩ := lfo_spec P f i (by omega)
    have hanb : lfo P f i ≠ 10 → anb P i = true := fun h10 => by
      cases ha : anb P i with
      | true => rfl
      | false => exact absurd (l1 ha) h10
    have hD : mjd P f i ≤ 9 := by
      unfold mjd
      by_cases h10 : lfo P f i = 10
      · rw [if_pos h10]
        omega
      · rw [if_neg h10]
        have := (l2 (hanb h10)).1
        omega
    rw [e_X3_mostJoyful_1, if_pos (by omega), tb_1 b (mjd P f i) (by omega) (by omega), tb_1 b i (by omega) (by omega), w_s i (by omega)]
    cases hp : P i with
    | false =>
      have em : mjd P f (i + 1) = mjd P f i := by
        unfold mjd
        rw [el, hp, Bool.false_and, if_neg (show ¬ (false = true) by decide)]
      rw [em, show b.testBit i = false from hp]
      cases b.testBit (mjd P f i) <;> rfl
    | true =>
      have hpb : b.testBit i = true := hp
      rw [hpb]
      by_cases h10 : lfo P f i = 10
      · have em : mjd P f (i + 1) = i := by
          have e10 : (lfo P f i == 10) = true := by simpa using h10
          unfold mjd
          rw [el, hp, Bool.true_and, e10, Bool.true_or, if_pos rfl, if_neg (by omega)]
        have eD : mjd P f i = 0 := if_pos h10
        rw [em, eD]
        by_cases hi0 : i = 0
        · subst hi0
          rw [hpb, z_t, y_t, if_pos rfl, gd_t (by decide), gd_t (by decide), if_neg (Int.lt_irrefl _)]
        · have h0 : b.testBit 0 = false := by
            cases hz : b.testBit 0 with
            | false => rfl
            | true =>
              have : anb P i = true := anb_iff.mpr ⟨0, by omega, hz⟩
              have := (l2 this).1
              omega
          rw [h0, z_f, y_t, if_neg (show ¬ (1 : Int) = 0 by decide)]
      · have ha := hanb h10
        obtain ⟨g1, g2, -, -⟩ := l2 ha
        have eD : mjd P f i = lfo P f i := if_neg h10
        have g2 : b.testBit (lfo P f i) = true := g2
        have e10 : (lfo P f i == 10) = false := by simpa using h10
        have hff : f i < f (lfo P f i) ↔ μ 49 ((lfo P f i : Nat) : Int) < μ 49 (i : Int) := by
          show -(μ 49 (i : Int)) < -(μ 49 ((lfo P f i : Nat) : Int)) ↔ _
          omega
        rw [eD, g2, z_t, y_t, if_pos rfl, gd_t (by omega), gd_t (by omega)]
        by_cases hlt : μ 49 ((lfo P f i : Nat) : Int) < μ 49 (i : Int)
        · have em : mjd P f (i + 1) = i := by
            unfold mjd
            rw [el, hp, Bool.true_and, e10, Bool.false_or, decide_eq_true (hff.mpr hlt), if_pos rfl, if_neg (by omega)]
          rw [if_pos hlt, em]
        · have em : mjd P f (i + 1) = lfo P f i := by
            unfold mjd
            rw [el, hp, Bool.true_and, e10, Bool.false_or, decide_eq_false (fun z => hlt (hff.mp z)), if_neg (show ¬ (false = true) by decide), if_neg h10]
          rw [if_neg hlt, em]
  · rw [e_X3_mostJoyful_1, if_neg (by decide)]
def mxs (P : Nat → Bool) (F : Nat → Int) : Nat → Int
  | 0 => -100
  | n + 1 => if P n then max (mxs P F n) (F n) else mxs P F n
theorem jrem_2 : ∀ m : Nat, m ≤ 10 → jrem (m : Int) 2 = ((m % 2 : Nat) : Int) := by decide +kernel
theorem c_X3_worthToOther (d : Nat) (μ : jM) (s b m : Nat) (hs : s < 1024) (hb : b < 1024) (hm : m ≤ 10) (hor : ∀ x, b.testBit x = true → s ||| 2 ^ x < 1024) : CL (d + 2) 55 [jR 47, jI s, jI b, jI m] μ = rI (if b = 0 then (if m % 2 = 0 then 100 - (m : Int) else (m : Int) - 100) else if m % 2 = 0 then μ 48 ((11 * (s ||| 2 ^ mjd (fun x => b.testBit x) (fun x => -(μ 49 (x : Int))) 10) + mjd (fun x => b.testBit x) (fun x => -(μ 49 (x : Int))) 10 : Nat) : Int) else mxs (fun x => b.testBit x) (fun x => μ 48 ((11 * (s ||| 2 ^ x) + x : Nat) : Int)) 10) μ := by
  let f : Nat → Int := fun x => -(μ 49 (x : Int))
  let F : Nat → Int := fun x => μ 48 ((11 * (s ||| 2 ^ x) + x : Nat) : Int)
  let P : Nat → Bool := fun x => b.testBit x
  rw [e_X3_worthToOther, gd_t (by decide), jrem_2 m hm]
  by_cases hp : m % 2 = 0
  · rw [hp, if_pos (show ((0 : Nat) : Int) = 0 from rfl)]
    by_cases h0 : b = 0
    · rw [if_pos (by omega), if_neg (by decide), if_pos h0, if_pos rfl, w_id (by omega) (by omega)]
    · rw [if_neg (by omega), if_neg (by decide), if_neg h0, if_pos rfl, c_X3_mostJoyful _ μ b hb, bI_r]
      have hbit : b.testBit (mjd P f 10) = true := by
        obtain ⟨l1, l2⟩ := lfo_spec P f 10 (by decide)
        have ha : anb P 10 = true := by
          cases ha : anb P 10 with
          | true => rfl
          | false =>
            refine absurd (Nat.eq_of_testBit_eq (fun i => ?_)) h0
            rw [Nat.zero_testBit]
            by_cases hi : i < 10
            · exact anb_f ha hi
            · exact tb_hi (n := 10) hb (by omega)
        obtain ⟨g1, g2, -, -⟩ := l2 ha
        have e : mjd P f 10 = lfo P f 10 := if_neg (by omega)
        rw [e]
        exact g2
      have hx9 : mjd P f 10 < 10 := by
        cases Nat.lt_or_ge (mjd P f 10) 10 with
        | inl z => exact z
        | inr z =>
          rw [tb_hi (n := 10) hb z] at hbit
          cases hbit
      have ho := hor _ hbit
      have h2x := p2_le (show mjd P f 10 ≤ 10 by omega)
      show bI (CL _ _ [jR 47, jI (jor s (jshl 1 (mjd P f 10 : Nat))), jI (mjd P f 10 : Nat)] μ) _ = rI (μ 48 ((11 * (s ||| 2 ^ mjd P f 10) + mjd P f 10 : Nat) : Int)) μ
      rw [shl_1 _ (by omega), or_nn s (2 ^ mjd P f 10) (by omega) (by omega), c_X3_value _ μ _ _ ho (by omega), bI_r]
  · have hp1 : m % 2 = 1 := by omega
    rw [hp1, if_neg (by decide)]
    by_cases h0 : b = 0
    · rw [if_pos (by omega), if_pos rfl, if_pos h0, if_neg (by decide), w_id (by omega) (by omega)]
    · rw [if_neg (by omega), if_pos rfl, if_neg h0, if_neg (by decide)]
      refine Eq.trans ?_ ((lp_0 (fun i : Nat => EV (d + 1) T_X3_worthToOther 1 [some (jR 47), some (jI s), some (jI b), none, none, some (jI (mxs P F i)), some (jI i)] [] μ) 10 (fun i hi => ?_)).trans ?_)
      · rfl
      · have h2i := p2_le (show i ≤ 10 by omega)
        have em : mxs P F (i + 1) = if P i then max (mxs P F i) (F i) else mxs P F i := rfl
        rw [e_X3_worthToOther_1, if_pos (by omega), tb_1 b i (by omega) (by omega), w_s i (by omega), em]
        cases hq : P i with
        | false =>
          rw [show b.testBit i = false from hq]
          rfl
        | true =>
          have hqb : b.testBit i = true := hq
          have o1 := hor i hqb
          rw [hqb, if_pos rfl, if_pos rfl, if_pos rfl, shl_1 i (by omega), or_nn s (2 ^ i) (by omega) (by omega), c_X3_value _ μ _ i o1 (by omega), bI_r]
      · rw [e_X3_worthToOther_1, if_neg (by decide)]
/-! ## what both play -/
def gsc (P H : Nat → Bool) (m : Nat → Int) (b : Bool) : Nat → Int × Bool
  | 0 => (0, true)
  | n + 1 => if P n && (H n == b) then (if (gsc P H m b n).2 then m n + 1 else if b then min (gsc P H m b n).1 (m n + 1) else max (gsc P H m b n).1 (m n + 1), false) else gsc P H m b n
theorem gsc_s (P H : Nat → Bool) (m : Nat → Int) (b : Bool) (n : Nat) : gsc P H m b (n + 1) = if P n && (H n == b) then (if (gsc P H m b n).2 then m n + 1 else if b then min (gsc P H m b n).1 (m n + 1) else max (gsc P H m b n).1 (m n + 1), false) else gsc P H m b n := rfl
theorem gsc_b {P H : Nat → Bool} {m : Nat → Int} {b : Bool} {B : Int} (hB : 0 ≤ B) (hm : ∀ x, P x = true → 0 ≤ m x ∧ m x + 1 ≤ B) : ∀ n : Nat, 0 ≤ (gsc P H m b n).1 ∧ (gsc P H m b n).1 ≤ B
  | 0 => ⟨Int.le_refl 0, hB⟩
  | n + 1 => by
    have ih := gsc_b hB hm (b := b) (H := H) n
    rw [gsc_s]
    cases hc : (P n && (H n == b)) with
    | false =>
      rw [if_neg (by decide)]
      exact ih
    | true =>
      rw [if_pos rfl]
      have hp := hm n (Bool.and_eq_true_iff.mp hc).1
      show 0 ≤ (if (gsc P H m b n).2 then m n + 1 else if b then min (gsc P H m b n).1 (m n + 1) else max (gsc P H m b n).1 (m n + 1)) ∧ (if (gsc P H m b n).2 then m n + 1 else if b then min (gsc P H m b n).1 (m n + 1) else max (gsc P H m b n).1 (m n + 1)) ≤ B
      by_cases h2 : (gsc P H m b n).2 = true
      · rw [if_pos h2]
        omega
      · rw [if_neg h2]
        by_cases h3 : b = true
        · rw [if_pos h3]
          omega
        · rw [if_neg h3]
          omega
theorem gsc_cg {P P' H H' : Nat → Bool} {m m' : Nat → Int} {b : Bool} : ∀ {n : Nat}, (∀ x, x < n → P x = P' x ∧ (P x = true → H x = H' x ∧ m x = m' x)) → gsc P H m b n = gsc P' H' m' b n
  | 0, _ => rfl
  | n + 1, h => by
    have ih := gsc_cg (b := b) (n := n) (fun x hx => h x (by omega))
    obtain ⟨h1, h2⟩ := h n (Nat.lt_succ_self n)
    rw [gsc_s, gsc_s, ← ih, ← h1]
    cases hp : P n with
    | false => rfl
    | true =>
      obtain ⟨h3, h4⟩ := h2 hp
      rw [h3, h4]
theorem gsc_hi {P H : Nat → Bool} {m : Nat → Int} {b : Bool} {n : Nat} : ∀ {M : Nat}, n ≤ M → (∀ i, n ≤ i → i < M → P i = false) → gsc P H m b M = gsc P H m b n
  | 0, h, _ => by
    have : n = 0 := by omega
    rw [this]
  | M + 1, h, hp => by
    by_cases e : n = M + 1
    · rw [e]
    · rw [gsc_s, hp M (by omega) (by omega), Bool.false_and, if_neg (by decide)]
      exact gsc_hi (by omega) (fun i h1 h2 => hp i h1 (by omega))
def gq (k : Kt) (w : Lw) (r : List Nat) (s l : Nat) : Nat := lfo (fun x => gS k w s l x) (fun x => -(jall k r x)) 10
/-- the first is shamed; how many more; by whose turn it is (the first's, the other's) -/
def gy (k : Kt) (w : Lw) (r : List Nat) : Nat → Nat → Nat → Bool → Bool × Int
  | 0, _, _, t => (t, 0)
  | n + 1, s, l, t => if t then (if gq k w r s l = 10 then (true, 0) else ((gy k w r n (s ||| 2 ^ gq k w r s l) (gq k w r s l) false).1, (gy k w r n (s ||| 2 ^ gq k w r s l) (gq k w r s l) false).2 + 1)) else (anb (fun x => gS k w s l x && (gy k w r n (s ||| 2 ^ x) x true).1) 10, (gsc (fun x => gS k w s l x) (fun x => (gy k w r n (s ||| 2 ^ x) x true).1) (fun x => (gy k w r n (s ||| 2 ^ x) x true).2) (anb (fun x => gS k w s l x && (gy k w r n (s ||| 2 ^ x) x true).1) 10) 10).1)
def gyr (k : Kt) (w : Lw) (r : List Nat) (s l : Nat) (t : Bool) : Bool × Int := gy k w r (10 - pc s) s l t
theorem gq_i {k : Kt} {w : Lw} {r : List Nat} {s l : Nat} (h : gq k w r s l ≠ 10) : gq k w r s l < 10 ∧ gS k w s l (gq k w r s l) = true := by
  unfold gq at h ⊢
  obtain ⟨l1, l2⟩ := lfo_spec (fun x => gS k w s l x) (fun x => -(jall k r x)) 10 (by decide)
  cases ha : anb (fun x => gS k w s l x) 10 with
  | false => exact absurd (l1 ha) h
  | true => exact ⟨(l2 ha).1, (l2 ha).2.1⟩
theorem gq_n {k : Kt} {w : Lw} {r : List Nat} {s l : Nat} (h : ∀ x, gS k w s l x = false) : gq k w r s l = 10 := by
  unfold gq
  refine (lfo_spec (fun x => gS k w s l x) (fun x => -(jall k r x)) 10 (by decide)).1 ?_
  rw [anb_hi (n := 0) (Nat.zero_le _) (fun i _ _ => h i)]
  rfl
theorem gS_10 {k : Kt} (hk : Kok k) {w : Lw} {s l : Nat} (hs : s < 2 ^ kn k) (h : pc s = 10) (x : Nat) : gS k w s l x = false := by
  have h10 := hk.1
  cases hx : gS k w s l x with
  | false => rfl
  | true =>
    obtain ⟨h1, h2⟩ := SS_stt hk hs hx
    have := pc_le h1.1 (by omega)
    omega
theorem gyr_t {k : Kt} (hk : Kok k) (w : Lw) (r : List Nat) {s l : Nat} (hs : s < 2 ^ kn k) : gyr k w r s l true = if gq k w r s l = 10 then (true, 0) else ((gyr k w r (s ||| 2 ^ gq k w r s l) (gq k w r s l) false).1, (gyr k w r (s ||| 2 ^ gq k w r s l) (gq k w r s l) false).2 + 1) := by
  have h10 := hk.1
  have hp := pc_le hs (by omega)
  by_cases h : pc s = 10
  · rw [gq_n (gS_10 hk hs h), if_pos rfl]
    unfold gyr
    rw [h]
    rfl
  · have e : 10 - pc s = (10 - (pc s + 1)) + 1 := by omega
    unfold gyr
    rw [e]
    show (if true = true then (if gq k w r s l = 10 then _ else _) else _) = _
    rw [if_pos rfl]
    by_cases hn : gq k w r s l = 10
    · rw [if_pos hn, if_pos hn]
    · rw [if_neg hn, if_neg hn, (SS_stt hk hs (gq_i hn).2).2]
theorem gyr_f {k : Kt} (hk : Kok k) (w : Lw) (r : List Nat) {s l : Nat} (hs : s < 2 ^ kn k) : gyr k w r s l false = (anb (fun x => gS k w s l x && (gyr k w r (s ||| 2 ^ x) x true).1) (kn k), (gsc (fun x => gS k w s l x) (fun x => (gyr k w r (s ||| 2 ^ x) x true).1) (fun x => (gyr k w r (s ||| 2 ^ x) x true).2) (anb (fun x => gS k w s l x && (gyr k w r (s ||| 2 ^ x) x true).1) (kn k)) (kn k)).1) := by
  have h10 := hk.1
  have hp := pc_le hs (by omega)
  by_cases h : pc s = 10
  · have hno := gS_10 hk (l := l) (w := w) hs h
    have e1 : anb (fun x => gS k w s l x && (gyr k w r (s ||| 2 ^ x) x true).1) (kn k) = false := by
      rw [anb_hi (n := 0) (Nat.zero_le _) (fun i _ _ => by rw [hno i, Bool.false_and])]
      rfl
    rw [e1, gsc_hi (n := 0) (Nat.zero_le _) (fun i _ _ => hno i)]
    unfold gyr
    rw [h]
    rfl
  · have e : 10 - pc s = (10 - (pc s + 1)) + 1 := by omega
    have en : ∀ x, gS k w s l x = true → gy k w r (10 - (pc s + 1)) (s ||| 2 ^ x) x true = gyr k w r (s ||| 2 ^ x) x true := fun x hx => by
      unfold gyr
      rw [(SS_stt hk hs hx).2]
    have e1 : anb (fun x => gS k w s l x && (gy k w r (10 - (pc s + 1)) (s ||| 2 ^ x) x true).1) 10 = anb (fun x => gS k w s l x && (gyr k w r (s ||| 2 ^ x) x true).1) (kn k) := by
      rw [anb_hi h10 (fun i h1 _ => by rw [gS_hi h1, Bool.false_and])]
      exact anb_cg (fun x _ => by
        cases hx : gS k w s l x with
        | false => rfl
        | true => rw [en x hx])
    have e2 : ∀ b, gsc (fun x => gS k w s l x) (fun x => (gy k w r (10 - (pc s + 1)) (s ||| 2 ^ x) x true).1) (fun x => (gy k w r (10 - (pc s + 1)) (s ||| 2 ^ x) x true).2) b 10 = gsc (fun x => gS k w s l x) (fun x => (gyr k w r (s ||| 2 ^ x) x true).1) (fun x => (gyr k w r (s ||| 2 ^ x) x true).2) b (kn k) := fun b => by
      rw [gsc_hi h10 (fun i h1 _ => gS_hi h1)]
      exact gsc_cg (fun x _ => ⟨rfl, fun hx => by rw [en x hx]; exact ⟨rfl, rfl⟩⟩)
    show gy k w r (10 - pc s) s l false = _
    rw [e]
    show (if false = true then _ else (anb _ 10, (gsc _ _ _ (anb _ 10) 10).1)) = _
    rw [if_neg (by decide), e1, e2]
theorem gy_b {k : Kt} (w : Lw) (r : List Nat) : ∀ n s l t, 0 ≤ (gy k w r n s l t).2 ∧ (gy k w r n s l t).2 ≤ n
  | 0, _, _, _ => by
    show 0 ≤ (0 : Int) ∧ (0 : Int) ≤ ((0 : Nat) : Int)
    decide
  | n + 1, s, l, t => by
    cases t with
    | true =>
      have ih := gy_b (k := k) w r n (s ||| 2 ^ gq k w r s l) (gq k w r s l) false
      show 0 ≤ (if true = true then (if gq k w r s l = 10 then ((true, 0) : Bool × Int) else _) else _).2 ∧ (if true = true then (if gq k w r s l = 10 then ((true, 0) : Bool × Int) else _) else _).2 ≤ ((n + 1 : Nat) : Int)
      rw [if_pos rfl]
      by_cases h : gq k w r s l = 10
      · rw [if_pos h]
        show 0 ≤ (0 : Int) ∧ (0 : Int) ≤ ((n + 1 : Nat) : Int)
        omega
      · rw [if_neg h]
        show 0 ≤ (gy k w r n (s ||| 2 ^ gq k w r s l) (gq k w r s l) false).2 + 1 ∧ (gy k w r n (s ||| 2 ^ gq k w r s l) (gq k w r s l) false).2 + 1 ≤ ((n + 1 : Nat) : Int)
        omega
    | false =>
      have := gsc_b (P := fun x => gS k w s l x) (H := fun x => (gy k w r n (s ||| 2 ^ x) x true).1) (m := fun x => (gy k w r n (s ||| 2 ^ x) x true).2) (b := anb (fun x => gS k w s l x && (gy k w r n (s ||| 2 ^ x) x true).1) 10) (B := ((n + 1 : Nat) : Int)) (by omega) (fun x _ => by
        have := gy_b (k := k) w r n (s ||| 2 ^ x) x true
        show 0 ≤ (gy k w r n (s ||| 2 ^ x) x true).2 ∧ (gy k w r n (s ||| 2 ^ x) x true).2 + 1 ≤ ((n + 1 : Nat) : Int)
        omega) 10
      exact this
theorem gyr_b {k : Kt} (hk : Kok k) (w : Lw) (r : List Nat) {s : Nat} (hs : s < 2 ^ kn k) (l : Nat) (t : Bool) : 0 ≤ (gyr k w r s l t).2 ∧ (pc s : Int) + (gyr k w r s l t).2 ≤ 10 := by
  have h10 := hk.1
  have := pc_le hs (by omega)
  have := gy_b (k := k) w r (10 - pc s) s l t
  unfold gyr
  omega
/-- what it is worth to the other one -/
def gW (k : Kt) (w : Lw) (r : List Nat) (s0 s l : Nat) : Int := if (gyr k w r s l ((pc s - pc s0) % 2 == 0)).1 then 100 - ((pc s : Int) - pc s0 + (gyr k w r s l ((pc s - pc s0) % 2 == 0)).2) else (pc s : Int) - pc s0 + (gyr k w r s l ((pc s - pc s0) % 2 == 0)).2 - 100
theorem gW_b {k : Kt} (hk : Kok k) (w : Lw) (r : List Nat) {s0 s : Nat} (hs : s < 2 ^ kn k) (h : pc s0 ≤ pc s) (l : Nat) : -100 ≤ gW k w r s0 s l ∧ gW k w r s0 s l ≤ 100 := by
  have := gyr_b hk w r hs l ((pc s - pc s0) % 2 == 0)
  unfold gW
  split <;> omega
theorem mx_t {P H : Nat → Bool} {m F : Nat → Int} {K : Int} (hK : K ≤ 100) (hf : ∀ x, P x = true → F x = if H x then K - m x else m x - K) (hm : ∀ x, P x = true → 0 ≤ m x ∧ m x < K) : ∀ n, (anb (fun x => P x && H x) n = true → (gsc P H m true n).2 = false ∧ mxs P F n = K + 1 - (gsc P H m true n).1 ∧ (gsc P H m true n).1 ≤ K) ∧ (anb (fun x => P x && H x) n = false → gsc P H m true n = (0, true) ∧ mxs P F n < 0)
  | 0 => ⟨fun h => (by cases h), fun _ => ⟨rfl, by show (-100 : Int) < 0; decide⟩⟩
  | n + 1 => by
    obtain ⟨h1, h2⟩ := mx_t hK hf hm n
    have ea : anb (fun x => P x && H x) (n + 1) = (anb (fun x => P x && H x) n || (P n && H n)) := rfl
    have el : mxs P F (n + 1) = if P n then max (mxs P F n) (F n) else mxs P F n := rfl
    rw [ea, el, gsc_s]
    cases hp : P n with
    | false =>
      rw [Bool.false_and, Bool.false_and, Bool.or_false, if_neg (by decide), if_neg (by decide)]
      exact ⟨h1, h2⟩
    | true =>
      have hfn := hf n hp
      have hmn := hm n hp
      rw [Bool.true_and, Bool.true_and, if_pos rfl]
      cases hH : H n with
      | false =>
        rw [hH, if_neg (by decide)] at hfn
        rw [show (false == true) = false from rfl, Bool.or_false, if_neg (show ¬ (false = true) by decide)]
        refine ⟨fun ha => ?_, fun ha => ?_⟩
        · obtain ⟨g1, g2, g3⟩ := h1 ha
          exact ⟨g1, by omega, g3⟩
        · obtain ⟨g1, g2⟩ := h2 ha
          exact ⟨g1, by omega⟩
      | true =>
        rw [hH, if_pos rfl] at hfn
        rw [show (true == true) = true from rfl, Bool.or_true, if_pos rfl]
        refine ⟨fun _ => ?_, fun z => (by cases z)⟩
        cases ha : anb (fun x => P x && H x) n with
        | true =>
          obtain ⟨g1, g2, g3⟩ := h1 ha
          rw [g1, if_neg (by decide), if_pos rfl]
          refine ⟨rfl, ?_, ?_⟩
          · show max (mxs P F n) (F n) = K + 1 - min (gsc P H m true n).1 (m n + 1)
            omega
          · show min (gsc P H m true n).1 (m n + 1) ≤ K
            omega
        | false =>
          obtain ⟨g1, g2⟩ := h2 ha
          rw [g1, if_pos rfl]
          refine ⟨rfl, ?_, ?_⟩
          · show max (mxs P F n) (F n) = K + 1 - (m n + 1)
            omega
          · show m n + 1 ≤ K
            omega
theorem mx_f {P H : Nat → Bool} {m F : Nat → Int} {K : Int} (hK : K ≤ 100) (hH : ∀ x, P x = true → H x = false) (hf : ∀ x, P x = true → F x = m x - K) (hm : ∀ x, P x = true → 0 ≤ m x ∧ m x < K) : ∀ n, (anb P n = true → (gsc P H m false n).2 = false ∧ mxs P F n = (gsc P H m false n).1 - 1 - K) ∧ (anb P n = false → gsc P H m false n = (0, true) ∧ mxs P F n = -100)
  | 0 => ⟨fun h => (by cases h), fun _ => ⟨rfl, rfl⟩⟩
  | n + 1 => by
    obtain ⟨h1, h2⟩ := mx_f hK hH hf hm n
    have ea : anb P (n + 1) = (anb P n || P n) := rfl
    have el : mxs P F (n + 1) = if P n then max (mxs P F n) (F n) else mxs P F n := rfl
    rw [ea, el, gsc_s]
    cases hp : P n with
    | false =>
      rw [Bool.false_and, Bool.or_false, if_neg (by decide), if_neg (by decide)]
      exact ⟨h1, h2⟩
    | true =>
      have hfn := hf n hp
      have hmn := hm n hp
      rw [hH n hp, Bool.true_and, Bool.or_true, show (false == false) = true from rfl, if_pos rfl, if_pos rfl]
      refine ⟨fun _ => ?_, fun z => (by cases z)⟩
      cases ha : anb P n with
      | true =>
        obtain ⟨g1, g2⟩ := h1 ha
        rw [g1, if_neg (by decide), if_neg (by decide)]
        refine ⟨rfl, ?_⟩
        show max (mxs P F n) (F n) = max (gsc P H m false n).1 (m n + 1) - 1 - K
        omega
      | false =>
        obtain ⟨g1, g2⟩ := h2 ha
        rw [g1, if_pos rfl]
        refine ⟨rfl, ?_⟩
        show max (mxs P F n) (F n) = m n + 1 - 1 - K
        omega
/-- a place's worth out of those behind it -/
theorem gW_s {k : Kt} (hk : Kok k) (w : Lw) (r : List Nat) {s0 s l : Nat} (hs : s < 2 ^ kn k) (h : pc s0 ≤ pc s) : gW k w r s0 s l = if anb (fun x => gS k w s l x) 10 = false then (if (pc s - pc s0) % 2 = 0 then 100 - ((pc s - pc s0 : Nat) : Int) else ((pc s - pc s0 : Nat) : Int) - 100) else if (pc s - pc s0) % 2 = 0 then gW k w r s0 (s ||| 2 ^ gq k w r s l) (gq k w r s l) else mxs (fun x => gS k w s l x) (fun x => gW k w r s0 (s ||| 2 ^ x) x) 10 := by
  have h10 := hk.1
  let P : Nat → Bool := fun x => gS k w s l x
  have hnx : ∀ x, P x = true → s ||| 2 ^ x < 2 ^ kn k ∧ pc (s ||| 2 ^ x) = pc s + 1 := fun x hx => ⟨(SS_stt hk hs hx).1.1, (SS_stt hk hs hx).2⟩
  by_cases hev : (pc s - pc s0) % 2 = 0
  · have hb : ((pc s - pc s0) % 2 == 0) = true := by simpa using hev
    rw [if_pos hev, if_pos hev]
    unfold gW
    rw [hb, gyr_t hk w r hs]
    by_cases hq : gq k w r s l = 10
    · have ha : anb P 10 = false := by
        obtain ⟨l1, l2⟩ := lfo_spec P (fun x => -(jall k r x)) 10 (by decide)
        cases ha : anb P 10 with
        | false => rfl
        | true =>
          have := (l2 ha).1
          have hq : lfo P (fun x => -(jall k r x)) 10 = 10 := hq
          omega
      rw [if_pos hq, if_pos ha, if_pos rfl]
      show 100 - ((pc s : Int) - pc s0 + 0) = _
      omega
    · obtain ⟨q1, q2⟩ := gq_i hq
      obtain ⟨n1, n2⟩ := hnx _ q2
      have ha : anb P 10 = true := anb_iff.mpr ⟨_, q1, q2⟩
      have hb2 : ((pc s + 1 - pc s0) % 2 == 0) = false := by
        simp
        omega
      rw [if_neg hq, if_neg (show ¬ anb (fun x => gS k w s l x) 10 = false from fun z => (by rw [show anb (fun x => gS k w s l x) 10 = true from ha] at z; cases z)), n2, hb2]
      show (if (gyr k w r (s ||| 2 ^ gq k w r s l) (gq k w r s l) false).1 then 100 - ((pc s : Int) - pc s0 + ((gyr k w r (s ||| 2 ^ gq k w r s l) (gq k w r s l) false).2 + 1)) else (pc s : Int) - pc s0 + ((gyr k w r (s ||| 2 ^ gq k w r s l) (gq k w r s l) false).2 + 1) - 100) = _
      split <;> omega
  · have hb : ((pc s - pc s0) % 2 == 0) = false := by simpa using hev
    let H : Nat → Bool := fun x => (gyr k w r (s ||| 2 ^ x) x true).1
    let m : Nat → Int := fun x => (gyr k w r (s ||| 2 ^ x) x true).2
    let F : Nat → Int := fun x => gW k w r s0 (s ||| 2 ^ x) x
    let K : Int := 100 - ((pc s : Int) + 1 - pc s0)
    have hb2 : ((pc s + 1 - pc s0) % 2 == 0) = true := by
      rw [beq_iff_eq]
      omega
    have hf : ∀ x, P x = true → F x = if H x then K - m x else m x - K := fun x hx => by
      obtain ⟨n1, n2⟩ := hnx x hx
      show gW k w r s0 (s ||| 2 ^ x) x = _
      unfold gW
      rw [n2, hb2]
      show (if (gyr k w r (s ||| 2 ^ x) x true).1 then _ else _) = if (gyr k w r (s ||| 2 ^ x) x true).1 then (100 - ((pc s : Int) + 1 - pc s0)) - (gyr k w r (s ||| 2 ^ x) x true).2 else (gyr k w r (s ||| 2 ^ x) x true).2 - (100 - ((pc s : Int) + 1 - pc s0))
      split <;> omega
    have hm : ∀ x, P x = true → 0 ≤ m x ∧ m x < K := fun x hx => by
      obtain ⟨n1, n2⟩ := hnx x hx
      have := gyr_b hk w r n1 x true
      show 0 ≤ (gyr k w r (s ||| 2 ^ x) x true).2 ∧ (gyr k w r (s ||| 2 ^ x) x true).2 < 100 - ((pc s : Int) + 1 - pc s0)
      omega
    have hK : K ≤ 100 := by
      show 100 - ((pc s : Int) + 1 - pc s0) ≤ 100
      omega
    have eK : K = 100 - ((pc s : Int) + 1 - pc s0) := rfl
    have e10 : anb P 10 = anb P (kn k) := anb_hi h10 (fun i h1 _ => gS_hi h1)
    have em10 : mxs P F 10 = mxs P F (kn k) := by
      have key : ∀ n, kn k ≤ n → mxs P F n = mxs P F (kn k) := by
        intro n hn
        induction hn with
        | refl => rfl
        | step hn ih =>
          refine Eq.trans (if_neg ?_) ih
          rw [show P _ = false from gS_hi hn]
          decide
      exact key 10 h10
    rw [if_neg hev, if_neg hev]
    show gW k w r s0 s l = if anb P 10 = false then _ else mxs P F 10
    unfold gW
    rw [hb, gyr_f hk w r hs, e10, em10]
    show (if anb (fun x => P x && H x) (kn k) then 100 - ((pc s : Int) - pc s0 + (gsc P H m (anb (fun x => P x && H x) (kn k)) (kn k)).1) else (pc s : Int) - pc s0 + (gsc P H m (anb (fun x => P x && H x) (kn k)) (kn k)).1 - 100) = _
    cases hz : anb (fun x => P x && H x) (kn k) with
    | true =>
      obtain ⟨g1, g2, -⟩ := (mx_t hK hf hm (kn k)).1 hz
      have hPa : anb P (kn k) = true := by
        obtain ⟨i, i1, i2⟩ := anb_iff.mp hz
        exact anb_iff.mpr ⟨i, i1, (Bool.and_eq_true_iff.mp i2).1⟩
      rw [if_pos rfl, hPa, if_neg (by decide), g2]
      omega
    | false =>
      have hHf : ∀ x, P x = true → H x = false := fun x hx => by
        have := anb_f hz (SS_i hx).1
        have h2 : (P x && H x) = false := this
        rw [hx, Bool.true_and] at h2
        exact h2
      have hf2 : ∀ x, P x = true → F x = m x - K := fun x hx => by
        have := hf x hx
        rw [hHf x hx, if_neg (by decide)] at this
        exact this
      rw [if_neg (by decide)]
      cases hPa : anb P (kn k) with
      | true =>
        obtain ⟨g1, g2⟩ := (mx_f hK hHf hf2 hm (kn k)).1 hPa
        rw [if_neg (by decide), g2]
        omega
      | false =>
        obtain ⟨g1, g2⟩ := (mx_f hK hHf hf2 hm (kn k)).2 hPa
        rw [if_pos rfl, g1]
        show (pc s : Int) - pc s0 + 0 - 100 = _
        omega
theorem mxs_cg {P Q : Nat → Bool} {F G : Nat → Int} : ∀ {n : Nat}, (∀ x, x < n → P x = Q x ∧ (P x = true → F x = G x)) → mxs P F n = mxs Q G n
  | 0, _ => rfl
  | n + 1, h => by
    have ih := mxs_cg (n := n) (fun x hx => h x (by omega))
    obtain ⟨h1, h2⟩ := h n (Nat.lt_succ_self n)
    show (if P n then max (mxs P F n) (F n) else mxs P F n) = if Q n then max (mxs Q G n) (G n) else mxs Q G n
    rw [ih, ← h1]
    cases hp : P n with
    | false => rfl
    | true => rw [h2 hp]
def fG (μ' μ : jM) : Prop := (∀ q, q ≠ 12 → q ≠ 15 → q ≠ 49 → μ' q = μ q) ∧ ∀ j : Int, j ≠ 5 → μ' 12 j = μ 12 j
theorem fG_r (μ : jM) : fG μ μ := ⟨fun _ _ _ _ => rfl, fun _ _ => rfl⟩
theorem fG_t {μ1 μ2 μ3 : jM} (h1 : fG μ2 μ1) (h2 : fG μ3 μ2) : fG μ3 μ1 := ⟨fun q a b c => (h2.1 q a b c).trans (h1.1 q a b c), fun j a => (h2.2 j a).trans (h1.2 j a)⟩
theorem fG_T {μ' μ : jM} (f : fT μ' μ) : fG μ' μ := ⟨fun q a b _ => f.1 q a b, f.2⟩
theorem fG_49 (μ : jM) (i v : Int) : fG (jup μ 49 i v) μ := ⟨fun q _ _ c => jup_ne c, fun j _ => jup_nf (by decide)⟩
theorem fG_KI {μ' μ : jM} {k : Kt} (f : fG μ' μ) (h : KI μ k) : KI μ' k := KI_cg h (fun q _ _ => f.1 q (by omega) (by omega) (by omega))
theorem fG_TaC {μ' μ : jM} {r : List Nat} (f : fG μ' μ) (h : TaC μ r) : TaC μ' r := ⟨h.1, (f.2 3 (by decide)).trans h.2.1, fun i hi => by rw [f.1 13 (by decide) (by decide) (by decide)]; exact h.2.2 i hi⟩
theorem c_X3_playGreedy (d : Nat) {μ : jM} {k : Kt} {w : Lw} {s0 l0 : Nat} {r : List Nat} (hKI : KI μ k) (hr : TaC μ r) (h : SP μ k w (fun _ _ => true) s0 l0) : ∃ μ', CL (d + 6) 54 [jR 47, jR 29, jR 3, jR 12, jR 50] μ = rI (if 0 < gW k w r s0 s0 l0 then 1 else 0) μ' ∧ ((∀ q, q ≠ 12 → q ≠ 15 → q ≠ 48 → q ≠ 49 → q ≠ 50 → q ≠ 51 → μ' q = μ q) ∧ ∀ j : Int, j ≠ 5 → μ' 12 j = μ 12 j) ∧ RI μ' [100 - jabs (gW k w r s0 s0 l0)] := by
  obtain ⟨hk, h10, h0, hN⟩ := SP_k h
  have hS0 := h.2.2.1
  have hl0 := Sok_10 hk hS0
  have hp0 := pc_le h0 (by omega)
  have hx := xq_KI hKI
  obtain ⟨μx, ex, fjx⟩ := lp_i (fun (i : Nat) (m : jM) => EV (d + 5) T_X3_playGreedy 1 [some (jR 47), some (jR 29), some (jR 3), some (jR 12), some (jR 50), some (jI i), none, none] [] m) (fun i m => fG m μ ∧ ∀ y : Nat, y < i → m 49 (y : Int) = jall (xq k) r y) 10 (fun i m hi hI => by
    obtain ⟨f, g⟩ := hI
    obtain ⟨m2, e2, f2⟩ := o_X9_ofAll d (fG_KI f hx) (fG_TaC f hr) i (xq_x k i)
    refine ⟨jup m2 49 (i : Int) (jall (xq k) r i), ?_, fG_t f (fG_t (fG_T f2) (fG_49 m2 _ _)), fun y hy => ?_⟩
    · show EV (d + 5) T_X3_playGreedy 1 [some (jR 47), some (jR 29), some (jR 3), some (jR 12), some (jR 50), some (jI i), none, none] [] m = _
      rw [e_X3_playGreedy_1, if_pos (by omega), e2, bI_r, gd_t (by omega), w_s i (by omega)]
    · by_cases hz : y = i
      · rw [hz]
        exact jup_r _ _ _ _
      · rw [jup_m (by omega), f2.1 49 (by decide) (by decide)]
        exact g y (by omega)) μ ⟨fG_r μ, fun y hy => absurd hy (Nat.not_lt_zero y)⟩
  have fx : fG μx μ := fjx.1
  have jx : ∀ y : Nat, y < 10 → μx 49 (y : Int) = jall (xq k) r y := fjx.2
  have hs : SP μx k w (fun _ _ => true) s0 l0 := SP_cg h (fun q _ _ => fx.1 q (by omega) (by omega) (by omega))
  let R := rr k w (fun _ _ => true) s0 l0
  let T : jM → Nat → Nat → Int := fun μ1 s l => μ1 48 ((11 * s + l : Nat) : Int)
  let J : Nat → Nat → jM → Prop := fun a j μ1 => (∀ q, q ≠ 48 → μ1 q = μx q) ∧ ∀ s l, R s l = true → a < s ∨ s = a ∧ l < j → T μ1 s l = gW k w r s0 s l
  have pics : ∀ μ1, (∀ q, q ≠ 48 → μ1 q = μx q) → SP μ1 k w (fun _ _ => true) s0 l0 := fun μ1 f => SP_cg hs (fun q _ _ => f q (by omega))
  -- what a place is worth
  have lf : ∀ a μ1, (∀ q, q ≠ 48 → μ1 q = μx q) → (∀ s l, R s l = true → a < s → T μ1 s l = gW k w r s0 s l) → ∀ l, R a l = true → ∀ d, CL (d + 2) 55 [jR 47, jI a, jI (opn k w (fun _ _ => true) s0 a &&& nra k w l : Nat), jI ((pc a : Int) - (pc s0 : Int))] μ1 = rI (gW k w r s0 a l) μ1 := fun a μ1 hq hT l hr2 d => by
    have hst := rr_st hk hS0 hr2
    have hS := (rr_in hk hS0 hr2).1
    have hon := nxt_lt hk w (fun _ _ => true) s0 a l
    have htb := nxt_tb hk (A := fun _ _ => true) (w := w) hS hst.2.2
    have hpa := pc_le hst.1 (by omega)
    have em : (pc a : Int) - (pc s0 : Int) = ((pc a - pc s0 : Nat) : Int) := by omega
    have hgs : ∀ x, (opn k w (fun _ _ => true) s0 a &&& nra k w l).testBit x = gS k w a l x := htb
    rw [em, c_X3_worthToOther d μ1 a _ (pc a - pc s0) (by omega) (by omega) (by omega) (fun x hx => by
      rw [htb x] at hx
      have := (SS_stt hk hst.1 hx).1.1
      omega), gW_s hk w r hst.1 hst.2.2]
    have ej : ∀ x, gS k w a l x = true → μ1 49 (x : Int) = jall k r x := fun x hx => by
      have hxk := (SS_i hx).1
      rw [hq 49 (by decide), jx x (by omega), xq_ja hxk]
    have el : lfo (fun x => (opn k w (fun _ _ => true) s0 a &&& nra k w l).testBit x) (fun x => -(μ1 49 (x : Int))) 10 = gq k w r a l := lfo_cg (by decide) (fun x _ => hgs x) (fun x _ hx => by
      rw [hgs x] at hx
      show -(μ1 49 (x : Int)) = -(jall k r x)
      rw [ej x hx])
    have ht : ∀ x, gS k w a l x = true → μ1 48 ((11 * (a ||| 2 ^ x) + x : Nat) : Int) = gW k w r s0 (a ||| 2 ^ x) x := fun x hx => by
      have hg := rr_go hk hS0 hr2 hx
      exact hT _ _ hg.1 (or_gt (SS_i hx).2.2.2)
    cases ha : anb (fun x => gS k w a l x) 10 with
    | false =>
      have hb0 : opn k w (fun _ _ => true) s0 a &&& nra k w l = 0 := Nat.eq_of_testBit_eq (fun i => by
        rw [Nat.zero_testBit, hgs i]
        by_cases hi : i < 10
        · exact anb_f ha hi
        · exact gS_hi (by omega))
      rw [if_pos hb0, if_pos rfl]
    | true =>
      obtain ⟨i, -, hi⟩ := anb_iff.mp ha
      have hb0 : opn k w (fun _ _ => true) s0 a &&& nra k w l ≠ 0 := fun z => by
        have := hgs i
        rw [z, Nat.zero_testBit, hi] at this
        cases this
      rw [if_neg hb0, if_neg (show ¬ (true = false) by decide)]
      have hq10 : gq k w r a l ≠ 10 := fun z => by
        have := ((lfo_spec (fun x => gS k w a l x) (fun x => -(jall k r x)) 10 (by decide)).2 ha).1
        have z : lfo (fun x => gS k w a l x) (fun x => -(jall k r x)) 10 = 10 := z
        omega
      by_cases hev : (pc a - pc s0) % 2 = 0
      · have emj : mjd (fun x => (opn k w (fun _ _ => true) s0 a &&& nra k w l).testBit x) (fun x => -(μ1 49 (x : Int))) 10 = gq k w r a l := by
          unfold mjd
          rw [el, if_neg hq10]
        rw [if_pos hev, if_pos hev, emj, ht _ (gq_i hq10).2]
      · rw [if_neg hev, if_neg hev]
        congr 1
        exact mxs_cg (fun x _ => ⟨hgs x, fun hx => ht x (by rw [← hgs x]; exact hx)⟩)
  have inner : ∀ a, a < 2 ^ kn k → s0 ≤ a → ∀ μ1, J a 0 μ1 → ∃ μ2, EV (d + 5) T_X3_playGreedy 3 [some (jR 47), some (jR 29), none, none, some (jR 50), some (jI a), some (jI (opn k w (fun _ _ => true) s0 a : Nat)), some (jI 0)] [] μ1 = EV (d + 5) T_X3_playGreedy 2 [some (jR 47), some (jR 29), none, none, some (jR 50), some (jI ((a : Int) - 1)), none, none] [] μ2 ∧ J a 11 μ2 := by
    intro a ha hsa μ1 hJ
    have hop := opn_lt hk w (fun _ _ => true) s0 a
    have hrl := re_lt k w (fun _ _ => true) s0 l0 a
    have hpa := pc_le ha (by omega)
    obtain ⟨μ2, e2, j2⟩ := lp_i (fun (j : Nat) (μ1 : jM) => EV (d + 5) T_X3_playGreedy 3 [some (jR 47), some (jR 29), none, none, some (jR 50), some (jI a), some (jI (opn k w (fun _ _ => true) s0 a : Nat)), some (jI j)] [] μ1) (fun j μ1 => J a j μ1) 11 (fun j μ1 hj hJ => by
      have s1 := pics μ1 hJ.1
      show ∃ s', EV (d + 5) T_X3_playGreedy 3 [some (jR 47), some (jR 29), none, none, some (jR 50), some (jI a), some (jI (opn k w (fun _ _ => true) s0 a : Nat)), some (jI j)] [] μ1 = _ ∧ _
      rw [e_X3_playGreedy_3, if_pos (by omega), c_ends _ s1 a ha, bI_r, tb_1 _ j (by omega) (by omega), re_tb hj, w_s j (by omega)]
      have stay : R a j = false → J a (j + 1) μ1 := fun hz => ⟨hJ.1, fun s l hr hc => by
        by_cases h1 : s = a ∧ l = j
        · rw [h1.1, h1.2, hz] at hr
          cases hr
        · exact hJ.2 s l hr (by omega)⟩
      cases hr : R a j with
      | false =>
        rw [show rr k w (fun _ _ => true) s0 l0 a j = false from hr]
        exact ⟨μ1, if_neg (by decide), stay hr⟩
      | true =>
        rw [show rr k w (fun _ _ => true) s0 l0 a j = true from hr]
        have hst := rr_st hk hS0 hr
        have hS := (rr_in hk hS0 hr).1
        have hna := nra_lt hk w j
        rw [if_pos rfl, if_pos rfl, c_near _ s1 j (by rcases hS.2 with z | z; exact Or.inl z.1; exact Or.inr z.1), bI_r, c_more _ s1 a ha, bI_r, and_nn _ _ (by omega) (by omega), lf a μ1 hJ.1 (fun s l hr hc => hJ.2 s l hr (Or.inl hc)) j hr, bI_r, c_X3_setValue _ μ1 a j (by omega) (by omega), bV_r]
        refine ⟨_, rfl, fun q hq => (jup_ne hq).trans (hJ.1 q hq), fun s l hr2 hc => ?_⟩
        have hl := (rr_st hk hS0 hr2).2.1
        show jup μ1 48 _ _ 48 _ = _
        rw [tab_up (by omega) hl]
        by_cases h1 : s = a ∧ l = j
        · rw [if_pos h1, h1.1, h1.2]
        · rw [if_neg h1]
          exact hJ.2 s l hr2 (by omega)) μ1 hJ
    refine ⟨μ2, e2.trans ?_, j2⟩
    show EV (d + 5) T_X3_playGreedy 3 [some (jR 47), some (jR 29), none, none, some (jR 50), some (jI a), some (jI (opn k w (fun _ _ => true) s0 a : Nat)), some (jI 11)] [] μ2 = _
    rw [e_X3_playGreedy_3, if_neg (by decide), w_id (by omega) (by omega)]
    rfl
  obtain ⟨μ1, e1, i1, i2⟩ := lp_j (fun (i : Nat) (μ1 : jM) => EV (d + 5) T_X3_playGreedy 2 [some (jR 47), some (jR 29), none, none, some (jR 50), some (jI (((s0 + i : Nat) : Int) - 1)), none, none] [] μ1) (fun i μ1 => (∀ q, q ≠ 48 → μ1 q = μx q) ∧ ∀ s l, R s l = true → s0 + i ≤ s → T μ1 s l = gW k w r s0 s l) (2 ^ kn k - s0) (fun i μ1 hi hI => by
    have s1 := pics μ1 hI.1
    have ha : s0 + i < 2 ^ kn k := by omega
    obtain ⟨μ2, e2, j2⟩ := inner (s0 + i) ha (by omega) μ1 ⟨hI.1, fun s l hr hc => hI.2 s l hr (by omega)⟩
    refine ⟨μ2, Eq.trans ?_ e2, j2.1, fun s l hr hc => j2.2 s l hr (by have := (rr_st hk hS0 hr).2.1; omega)⟩
    show EV (d + 5) T_X3_playGreedy 2 [some (jR 47), some (jR 29), none, none, some (jR 50), some (jI (((s0 + (i + 1) : Nat) : Int) - 1)), none, none] [] μ1 = _
    have e3 : ((s0 + (i + 1) : Nat) : Int) - 1 = ((s0 + i : Nat) : Int) := by omega
    rw [e3, e_X3_playGreedy_2, c_from _ s1, bI_r, if_neg (by omega), c_open _ s1 _ ha, bI_r]) μx ⟨fun _ _ => rfl, fun s l hr hc => by have := (rr_st hk hS0 hr).1; omega⟩
  have s1 := pics μ1 i1
  have hr0 : R s0 l0 = true := by
    show rr k w (fun _ _ => true) s0 l0 s0 l0 = true
    rw [rr_0]
    simp
  have hT0 : μ1 48 ((11 * s0 + l0 : Nat) : Int) = gW k w r s0 s0 l0 := i2 s0 l0 hr0 (Nat.le_refl _)
  obtain ⟨μ2, e2, f2, r2⟩ := c_X7_clear (d + 4) (μ := μ1)
  obtain ⟨μ3, e3, f3, r3⟩ := c_X7_add (d + 4) r2 (100 - jabs (gW k w r s0 s0 l0)) (by simp)
  have head : CL (d + 6) 54 [jR 47, jR 29, jR 3, jR 12, jR 50] μ = EV (d + 5) T_X3_playGreedy 2 [some (jR 47), some (jR 29), none, none, some (jR 50), some (jI ((s0 : Int) - 1)), none, none] [] μ1 := by
    rw [e_X3_playGreedy]
    refine Eq.trans ex ?_
    show EV (d + 5) T_X3_playGreedy 1 [some (jR 47), some (jR 29), some (jR 3), some (jR 12), some (jR 50), some (jI 10), none, none] [] μx = _
    rw [e_X3_playGreedy_1, if_neg (by decide), c_sets _ hs, bI_r, w_id (by omega) (by omega)]
    have e3 : ((2 ^ kn k : Nat) : Int) - 1 = ((s0 + (2 ^ kn k - s0) : Nat) : Int) - 1 := by omega
    rw [e3]
    exact e1
  have hb := gW_b hk w r h0 (Nat.le_refl (pc s0)) l0
  have hjb : -1000 ≤ 100 - jabs (gW k w r s0 s0 l0) ∧ 100 - jabs (gW k w r s0 s0 l0) ≤ 1000 := by
    unfold jabs
    by_cases hz : 0 ≤ gW k w r s0 s0 l0
    · rw [if_pos hz]
      omega
    · rw [if_neg hz, w_id (by omega) (by omega)]
      omega
  refine ⟨μ3, ?_, ⟨fun q a b c e f g => (f3 q f g).trans ((f2 q f g).trans ((i1 q c).trans (fx.1 q a b e))), fun j hj => by rw [f3 12 (by decide) (by decide), f2 12 (by decide) (by decide), i1 12 (by decide)]; exact fx.2 j hj⟩, r3⟩
  rw [head, e_X3_playGreedy_2, c_from _ s1, bI_r, if_pos (by omega), c_from _ s1, bI_r, c_start _ s1, bI_r, c_X3_value _ μ1 s0 l0 (by omega) hl0, bI_r, hT0, e2, bV_r, w_id (by omega) (by omega), e3, bV_r]
  by_cases hpos : 0 < gW k w r s0 s0 l0
  · rw [if_pos hpos, if_pos hpos]
  · rw [if_neg hpos, if_neg hpos]
