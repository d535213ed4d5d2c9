/-! ## a DISH made: which STUFFS -/
def stX (k : Kt) (b : Nat) : Nat → Nat := fun x => if x = kn k then b else kst k x
def heX (k : Kt) : Nat → Nat := fun x => if x = kn k then 0 else khe k x
/-- all can be one row with a cold one of these STUFFS -/
def Jm (k : Kt) (w : Lw) (b : Nat) : Prop := CA w (stX k b) (heX k) (kn k + 1)
def BJ (k : Kt) (w : Lw) (b : Nat) : Prop := (1 ≤ b ∧ b < 256) ∧ Jm k w b ∧ ∀ c, 1 ≤ c → c < 256 → Jm k w c → pc b < pc c ∨ pc b = pc c ∧ b ≤ c
theorem BJ_u {k : Kt} {w : Lw} {b c : Nat} (h1 : BJ k w b) (h2 : BJ k w c) : b = c := by
  have a1 := h1.2.2 c h2.1.1 h2.1.2 h2.2.1
  have a2 := h2.2.2 b h1.1.1 h1.1.2 h1.2.1
  omega
theorem stX_o {k : Kt} {b x : Nat} (h : x < kn k) : stX k b x = kst k x := if_neg (by omega)
theorem heX_o {k : Kt} {x : Nat} (h : x < kn k) : heX k x = khe k x := if_neg (by omega)
theorem stX_n (k : Kt) (b : Nat) : stX k b (kn k) = b := if_pos rfl
theorem heX_n (k : Kt) : heX k (kn k) = 0 := if_pos rfl
theorem pc_khs {k : Kt} (hk : Kok k) (u : Nat) : pc (khs k u) = cnt (fun x => (kst k x).testBit u) (kn k) := by
  have h10 := hk.1
  unfold khs
  rw [pc_cnt (n := kn k) (bm_lt _ _) (by omega)]
  refine cnt_cg (fun x hx => ?_)
  rw [bm_tb, decide_eq_true hx, Bool.true_and]
def bsd (k : Kt) (w : Lw) (b : Nat) : Nat := if lhe w = 2 then ksome k b (lsh w) &&& khot k else ksome k b (lsh w)
theorem bsd_lt {k : Kt} (hk : Kok k) (w : Lw) (b : Nat) : bsd k w b < 2 ^ kn k := by
  have h1 : ksome k b (lsh w) < 2 ^ kn k := bm_lt _ _
  unfold bsd
  split
  · exact Nat.lt_of_le_of_lt Nat.and_le_left h1
  · exact h1
theorem bsd_tb {k : Kt} (hk : Kok k) (w : Lw) (b : Nat) {x : Nat} (hx : x < kn k) : (bsd k w b).testBit x = ajf w (stX k b) (heX k) x (kn k) := by
  have a1 := (hk.2.2.1 x hx).2.2.2.1
  have e1 : (ksome k b (lsh w)).testBit x = decide (lsh w ≤ pc (kst k x &&& b)) := by
    unfold ksome
    rw [bm_tb, decide_eq_true hx, Bool.true_and]
  unfold bsd ajf
  rw [stX_o hx, stX_n, heX_o hx, heX_n]
  by_cases h2 : lhe w = 2
  · have e2 : (lhe w == 2) = true := by simpa using h2
    rw [if_pos h2, Nat.testBit_and, e1, khot_tb k hx, e2, Bool.true_and]
    rcases (show khe k x = 0 ∨ khe k x = 1 by omega) with z | z <;> rw [z] <;> rfl
  · have e2 : (lhe w == 2) = false := by simpa using h2
    rw [if_neg h2, e1, e2, Bool.false_and]
    simp
def jnB (k : Kt) (w : Lw) (b : Nat) : Bool := !anb (fun u => decide (lmo w u < pc (khs k u) + (if b.testBit u then 1 else 0))) 8
noncomputable def jnA (k : Kt) (w : Lw) (b : Nat) : Bool := jnB k w b && anb (fun l => (bsd k w b).testBit l && ((foV k w (2 ^ kn k) l &&& bsd k w b) != 0)) 10
theorem c_X5_joins (d : Nat) {μ : jM} {k : Kt} {w : Lw} (hk : KI μ k) (hw : LI μ 16 w) (hf : ∀ l : Nat, l < 10 → μ 46 (l : Int) = (foV k w (2 ^ kn k) l : Int)) (b : Nat) (hb : b < 256) : CL (d + 3) 95 [jR 36, jI b, jR 3, jR 16] μ = rI (if jnA k w b then 1 else 0) μ := by
  have h10 := hk.1.1
  have hN := p2_le h10
  have hlok := hw.2.1
  have kd : KD 16 = 2 := by decide
  have hbl := bsd_lt hk.1 w b
  have hks : ksome k b (lsh w) < 2 ^ kn k := bm_lt _ _
  have hkh : khot k < 2 ^ kn k := bm_lt _ _
  let bad : Nat → Bool := fun u => decide (lmo w u < pc (khs k u) + (if b.testBit u then 1 else 0))
  have s1 : ∀ u : Nat, u < 8 → EV (d + 2) T_X5_joins 1 [some (jR 36), some (jI b), some (jR 3), some (jR 16), some (jI u), none] [] μ = if bad u then rI 0 μ else EV (d + 2) T_X5_joins 1 [some (jR 36), some (jI b), some (jR 3), some (jR 16), some (jI ((u + 1 : Nat) : Int)), none] [] μ := fun u hu => by
    have hkb := khs_b hk.1 u
    have hp := pc_12 (khs k u)
    have hl := lmo_ok hlok u
    rw [e_X5_joins_1, if_pos (by omega), c_X1_holdersOf _ hk u hu, bI_r, c_bc _ _ _ (by omega), bI_r, cd_t kd, c_X2_most _ hw u hu, bI_r, tb_1 b u (by omega) (by omega), w_s u (by omega)]
    show _ = if decide (lmo w u < pc (khs k u) + (if b.testBit u then 1 else 0)) = true then _ else _
    cases b.testBit u with
    | false =>
      rw [show (if false = true then (1 : Int) else 0) = 0 from rfl, show (if false = true then 1 else 0) = (0 : Nat) from rfl, Int.add_zero, Nat.add_zero, w_id (by omega) (by omega)]
      by_cases hz : lmo w u < pc (khs k u)
      · rw [if_pos (by omega), gd_t (by decide), if_pos (by simpa using hz)]
      · rw [if_neg (by omega), if_neg (by simpa using hz)]
    | true =>
      rw [show (if true = true then (1 : Int) else 0) = 1 from rfl, show (if true = true then 1 else 0) = (1 : Nat) from rfl, w_s _ (by omega)]
      by_cases hz : lmo w u < pc (khs k u) + 1
      · rw [if_pos (by omega), gd_t (by decide), if_pos (by simpa using hz)]
      · rw [if_neg (by omega), if_neg (by simpa using hz)]
  have s2 := lp_fs (fun u : Nat => EV (d + 2) T_X5_joins 1 [some (jR 36), some (jI b), some (jR 3), some (jR 16), some (jI u), none] [] μ) bad 8 (fun u hu hz _ => by
    show EV (d + 2) T_X5_joins 1 [some (jR 36), some (jI b), some (jR 3), some (jR 16), some (jI u), none] [] μ = _
    rw [s1 u hu, hz, if_neg (by decide)])
  have s2 : EV (d + 2) T_X5_joins 1 [some (jR 36), some (jI b), some (jR 3), some (jR 16), some (jI 0), none] [] μ = EV (d + 2) T_X5_joins 1 [some (jR 36), some (jI b), some (jR 3), some (jR 16), some (jI (fs bad 8 : Nat)), none] [] μ := s2
  obtain ⟨p1, p2, p3⟩ := fs_spec bad 8
  have hB : jnB k w b = !anb bad 8 := rfl
  rw [e_X5_joins, s2]
  by_cases hbad : fs bad 8 < 8
  · have ha := (fs_anb bad 8).mp hbad
    rw [s1 _ hbad, p3 hbad, if_pos rfl]
    unfold jnA
    rw [hB, ha]
    rfl
  · have ha : anb bad 8 = false := by
      cases hz : anb bad 8 with
      | false => rfl
      | true => exact absurd ((fs_anb bad 8).mpr hz) hbad
    have e8 : fs bad 8 = 8 := by omega
    have hA : jnA k w b = anb (fun l => (bsd k w b).testBit l && ((foV k w (2 ^ kn k) l &&& bsd k w b) != 0)) 10 := by
      unfold jnA
      rw [hB, ha]
      rfl
    let Q : Nat → Bool := fun l => (bsd k w b).testBit l && ((foV k w (2 ^ kn k) l &&& bsd k w b) != 0)
    have r1 : ∀ l : Nat, l < 10 → EV (d + 2) T_X5_joins 2 [some (jR 36), none, none, none, some (jI (bsd k w b : Nat)), some (jI l)] [] μ = if Q l then rI 1 μ else EV (d + 2) T_X5_joins 2 [some (jR 36), none, none, none, some (jI (bsd k w b : Nat)), some (jI ((l + 1 : Nat) : Int))] [] μ := fun l hl => by
      have hfo := foV_lt k w (2 ^ kn k) l
      rw [e_X5_joins_2, if_pos (by omega), tb_1 _ l (by omega) (by omega), w_s l (by omega)]
      show _ = if ((bsd k w b).testBit l && ((foV k w (2 ^ kn k) l &&& bsd k w b) != 0)) = true then _ else _
      cases (bsd k w b).testBit l with
      | false =>
        rw [y_f, Bool.false_and, if_neg (show ¬ (false = true) by decide)]
      | true =>
        rw [y_t, gd_t (by omega), hf l hl, and_nn _ _ (by omega) (by omega), Bool.true_and]
        by_cases hz : foV k w (2 ^ kn k) l &&& bsd k w b = 0
        · have e1 : ((foV k w (2 ^ kn k) l &&& bsd k w b) != 0) = false := by simpa using hz
          rw [if_pos (show ((foV k w (2 ^ kn k) l &&& bsd k w b : Nat) : Int) = 0 by omega), e1, if_neg (show ¬ (false = true) by decide)]
        · have e1 : ((foV k w (2 ^ kn k) l &&& bsd k w b) != 0) = true := by simpa using hz
          rw [if_neg (show ¬ ((foV k w (2 ^ kn k) l &&& bsd k w b : Nat) : Int) = 0 by omega), e1, if_pos rfl, gd_t (by decide)]
    have r2 := lp_fs (fun l : Nat => EV (d + 2) T_X5_joins 2 [some (jR 36), none, none, none, some (jI (bsd k w b : Nat)), some (jI l)] [] μ) Q 10 (fun l hl hz _ => by
      show EV (d + 2) T_X5_joins 2 [some (jR 36), none, none, none, some (jI (bsd k w b : Nat)), some (jI l)] [] μ = _
      rw [r1 l hl, hz, if_neg (by decide)])
    have r2 : EV (d + 2) T_X5_joins 2 [some (jR 36), none, none, none, some (jI (bsd k w b : Nat)), some (jI 0)] [] μ = EV (d + 2) T_X5_joins 2 [some (jR 36), none, none, none, some (jI (bsd k w b : Nat)), some (jI (fs Q 10 : Nat))] [] μ := r2
    have head : EV (d + 2) T_X5_joins 1 [some (jR 36), some (jI b), some (jR 3), some (jR 16), some (jI ((8 : Nat) : Int)), none] [] μ = EV (d + 2) T_X5_joins 2 [some (jR 36), none, none, none, some (jI (bsd k w b : Nat)), some (jI 0)] [] μ := by
      rw [e_X5_joins_1, if_neg (by decide), cd_t kd, c_X2_share _ hw, bI_r, c_X1_holdersOfSome _ hk b (lsh w) hb (by have := hlok.1; omega), bI_r, cd_t kd, c_X2_heat _ hw, bI_r]
      unfold bsd
      by_cases h2 : lhe w = 2
      · rw [if_pos (show ((lhe w : Nat) : Int) = 2 by omega), if_pos h2, c_X1_hotDishes _ hk, bI_r, and_nn _ _ (by omega) (by omega)]
      · have e1 := and_nn (ksome k b (lsh w)) 1023 (by omega) (by decide)
        rw [and_1023 (by omega)] at e1
        have e1 : jand ((ksome k b (lsh w) : Nat) : Int) 1023 = ((ksome k b (lsh w) : Nat) : Int) := e1
        rw [if_neg (show ¬ ((lhe w : Nat) : Int) = 2 by omega), if_neg h2, e1]
    obtain ⟨q1, q2, q3⟩ := fs_spec Q 10
    rw [e8, head, r2, hA]
    by_cases hq : fs Q 10 < 10
    · have ha2 : anb (fun l => (bsd k w b).testBit l && ((foV k w (2 ^ kn k) l &&& bsd k w b) != 0)) 10 = true := (fs_anb Q 10).mp hq
      rw [r1 _ hq, q3 hq, if_pos rfl, ha2, if_pos rfl]
    · have ha2 : anb (fun l => (bsd k w b).testBit l && ((foV k w (2 ^ kn k) l &&& bsd k w b) != 0)) 10 = false := by
        cases hz : anb (fun l => (bsd k w b).testBit l && ((foV k w (2 ^ kn k) l &&& bsd k w b) != 0)) 10 with
        | false => rfl
        | true => exact absurd ((fs_anb Q 10).mpr hz) hq
      have e10 : fs Q 10 = 10 := by omega
      rw [e10, ha2, e_X5_joins_2, if_neg (by decide), gd_t (by decide)]
      rfl
theorem jnB_i {k : Kt} (hk : Kok k) (w : Lw) (b : Nat) : jnB k w b = true ↔ stG w (stX k b) (kn k + 1) := by
  have e : ∀ u, cnt (fun x => (stX k b x).testBit u) (kn k + 1) = pc (khs k u) + (if b.testBit u then 1 else 0) := fun u => by
    have e1 : cnt (fun x => (stX k b x).testBit u) (kn k + 1) = cnt (fun x => (stX k b x).testBit u) (kn k) + (if (stX k b (kn k)).testBit u then 1 else 0) := rfl
    rw [e1, stX_n, pc_khs hk]
    congr 1
    exact cnt_cg (fun x hx => by rw [stX_o hx])
  unfold jnB stG lmo
  constructor
  · intro h u hu
    have h2 : anb (fun u => decide (min (lti w) (lst w u) < pc (khs k u) + (if b.testBit u then 1 else 0))) 8 = false := by simpa using h
    have h3 := of_decide_eq_false (anb_f h2 hu)
    rw [e u]
    omega
  · intro h
    have : anb (fun u => decide (min (lti w) (lst w u) < pc (khs k u) + (if b.testBit u then 1 else 0))) 8 = false := by
      cases hz : anb (fun u => decide (min (lti w) (lst w u) < pc (khs k u) + (if b.testBit u then 1 else 0))) 8 with
      | false => rfl
      | true =>
        obtain ⟨u, hu, hp⟩ := anb_iff.mp hz
        have hp := of_decide_eq_true hp
        have := h u hu
        rw [e u] at this
        omega
    rw [this]
    rfl
theorem tooH_i {k : Kt} (w : Lw) {t : Nat} (ht : t < 2 ^ kn k) : tooH k w t = false ↔ (lhe w = 1 → ∀ x, t.testBit x = true → htf (khe k) x = false) := by
  have hyk : ∀ y, t.testBit y = true → y < kn k := fun y hy => by
    cases Nat.lt_or_ge y (kn k) with
    | inl z => exact z
    | inr z =>
      rw [tb_hi ht z] at hy
      cases hy
  unfold tooH
  constructor
  · intro h h1 x hx
    have e1 : (lhe w == 1) = true := by simpa using h1
    rw [e1, Bool.true_and] at h
    have hz : t &&& khot k = 0 := by simpa using h
    cases hq : htf (khe k) x with
    | false => rfl
    | true => exact absurd ⟨hx, by rw [khot_tb k (hyk x hx)]; exact hq⟩ (and_z.mp hz x)
  · intro h
    by_cases h1 : lhe w = 1
    · have hz : t &&& khot k = 0 := and_z.mpr (fun i hi => by
        have := h h1 i hi.1
        have h2 := hi.2
        rw [khot_tb k (hyk i hi.1)] at h2
        have this : (khe k i == 1) = false := this
        rw [this] at h2
        cases h2)
      rw [hz]
      simp
    · have : (lhe w == 1) = false := by simpa using h1
      rw [this]
      rfl
/-- joins says just that -/
theorem jnA_i {k : Kt} (hk : Kok k) {w : Lw} (hst : stk k w (2 ^ kn k - 1) = true) (hno : ¬ CA w (kst k) (khe k) (kn k)) (b : Nat) : jnA k w b = true ↔ Jm k w b := by
  have h10 := hk.1
  have h2p := Nat.two_pow_pos (kn k)
  have hno2 : ¬ ∃ a, LW (ajf w (kst k) (khe k)) (lhe w = 1) (htf (khe k)) a (2 ^ kn k - 1) := fun z => hno ⟨(stk_stG hk w).mp hst, z⟩
  have hgap := gap_iff (adj := ajf w (kst k) (khe k)) (adj' := ajf w (stX k b) (heX k)) (h1 := lhe w = 1) (ht := htf (khe k)) (ht' := htf (heX k)) (n := kn k) (F := 2 ^ kn k - 1) (F' := 2 ^ (kn k + 1) - 1) (fullF (kn k)) (fullF (kn k + 1)) (fun x hx y hy => by
    unfold ajf
    rw [stX_o hx, stX_o hy, heX_o hx, heX_o hy]) (fun x hx => by
    unfold htf
    rw [heX_o hx]) (by unfold htf; rw [heX_n]; rfl) hno2
  have hmid : anb (fun l => (bsd k w b).testBit l && ((foV k w (2 ^ kn k) l &&& bsd k w b) != 0)) 10 = true ↔ ∃ a, LW (ajf w (stX k b) (heX k)) (lhe w = 1) (htf (heX k)) a (2 ^ (kn k + 1) - 1) := by
    have hbl := bsd_lt hk w b
    have hbk : ∀ x, (bsd k w b).testBit x = true → x < kn k := fun x hx => by
      cases Nat.lt_or_ge x (kn k) with
      | inl z => exact z
      | inr z =>
        rw [tb_hi hbl z] at hx
        cases hx
    rw [hgap, anb_iff]
    constructor
    · rintro ⟨l, hl, h⟩
      rw [Bool.and_eq_true] at h
      obtain ⟨h1, h2⟩ := h
      have hlk := hbk l h1
      have hz : foV k w (2 ^ kn k) l &&& bsd k w b ≠ 0 := by simpa using h2
      obtain ⟨f, hf⟩ : ∃ f, (foV k w (2 ^ kn k) l &&& bsd k w b).testBit f = true := by
        cases hc : anb (fun i => (foV k w (2 ^ kn k) l &&& bsd k w b).testBit i) 11 with
        | true =>
          obtain ⟨i, -, hi⟩ := anb_iff.mp hc
          exact ⟨i, hi⟩
        | false =>
          refine absurd (Nat.eq_of_testBit_eq (fun i => ?_)) hz
          rw [Nat.zero_testBit]
          by_cases hi : i < 11
          · exact anb_f hc hi
          · refine tb_hi (n := 11) ?_ (by omega)
            exact Nat.lt_of_le_of_lt Nat.and_le_left (foV_lt k w _ l)
      rw [Nat.testBit_and, Bool.and_eq_true] at hf
      have hfk := hbk f hf.2
      have hf1 := hf.1
      unfold foV at hf1
      rw [bm_tb, Bool.and_eq_true] at hf1
      obtain ⟨t, ht, hp⟩ := anb_iff.mp hf1.2
      rw [Bool.and_eq_true, Bool.and_eq_true] at hp
      obtain ⟨⟨hr, hh⟩, hg⟩ := hp
      have hh : tooH k w t = false := by simpa using hh
      have hE := (rr_EL hk hst _ t (Nat.lt_succ_self t) ht l hlk).mp hr
      unfold glV at hg
      by_cases hz0 : nd (2 ^ kn k - 1) t = 0
      · rw [if_pos hz0, tb_1024, decide_eq_true_eq] at hg
        omega
      · rw [if_neg hz0, bm_tb, Bool.and_eq_true] at hg
        refine ⟨t, nd (2 ^ kn k - 1) t, l, f, fun i hi => ?_, fun i => ?_, hE, (tooH_i w ht).mp hh, blB_i.mp hg.2, ?_, ?_⟩
        · exact ful.mp (sub_full ht i hi)
        · rw [nd_tb, Bool.and_eq_true, ful]
          simp
        · rw [← bsd_tb hk w b hlk]
          exact h1
        · rw [aj_sym, ← bsd_tb hk w b hfk]
          exact hf.2
    · rintro ⟨s, c, l, f, hs, hc, hE, hcold, hB, al, af⟩
      have hlt := EL_in hE
      have hlk := hs l hlt
      have hfc := BL_in hB
      have hfk := ((hc f).mp hfc).1
      have hs2 : s < 2 ^ kn k := Nat.lt_pow_two_of_testBit _ (fun i hi => by
        cases hz : s.testBit i with
        | false => rfl
        | true =>
          have := hs i hz
          omega)
      have hce : c = nd (2 ^ kn k - 1) s := Nat.eq_of_testBit_eq (fun i => by
        rw [nd_tb]
        have h1 := hc i
        have h2 := @ful (kn k) i
        apply Bool.eq_iff_iff.mpr
        rw [h1, Bool.and_eq_true, h2]
        simp)
      refine ⟨l, by omega, ?_⟩
      have hbl2 : (bsd k w b).testBit l = true := by rw [bsd_tb hk w b hlk]; exact al
      have hbf : (bsd k w b).testBit f = true := by rw [bsd_tb hk w b hfk, aj_sym]; exact af
      have hfo : (foV k w (2 ^ kn k) l).testBit f = true := by
        unfold foV
        rw [bm_tb, decide_eq_true (show f < 11 by omega), Bool.true_and]
        refine anb_iff.mpr ⟨s, hs2, ?_⟩
        rw [(rr_EL hk hst _ s (Nat.lt_succ_self s) hs2 l hlk).mpr hE, (tooH_i w hs2).mpr hcold, ← hce]
        unfold glV
        have hc0 : c ≠ 0 := fun z => by
          rw [z, Nat.zero_testBit] at hfc
          cases hfc
        rw [if_neg hc0, bm_tb, decide_eq_true hfk, blB_i.mpr hB]
        rfl
      have hz : foV k w (2 ^ kn k) l &&& bsd k w b ≠ 0 := fun z => by
        have : (foV k w (2 ^ kn k) l &&& bsd k w b).testBit f = true := by rw [Nat.testBit_and, hfo, hbf]; rfl
        rw [z, Nat.zero_testBit] at this
        cases this
      have e1 : ((foV k w (2 ^ kn k) l &&& bsd k w b) != 0) = true := by simpa using hz
      rw [hbl2, e1]
      rfl
  unfold jnA Jm CA
  rw [Bool.and_eq_true, jnB_i hk, hmid]
theorem pc_8 : ∀ b, b < 256 → pc b ≤ 8 ∧ (1 ≤ b → 1 ≤ pc b) := by decide +kernel
/-- the class seeks by how many, then by which -/
theorem c_X5_joiningStuffs (d : Nat) {μ : jM} {k : Kt} {w : Lw} (hk : KI μ k) (hw : LI μ 16 w) (h : SP μ k w (fun _ _ => true) 0 10) : ∃ (μ' : jM) (v : Int), CL (d + 4) 91 [jR 36, jR 29, jR 3, jR 16] μ = rI v μ' ∧ (∀ q, q ≠ 44 → q ≠ 46 → μ' q = μ q) ∧ (v = 0 ∧ CA w (kst k) (khe k) (kn k) ∨ ¬ CA w (kst k) (khe k) (kn k) ∧ (v = -1 ∧ (∀ c, 1 ≤ c → c < 256 → ¬ Jm k w c) ∨ ∃ b : Nat, v = (b : Int) ∧ BJ k w b)) := by
  obtain ⟨hko, h10, h0, hN⟩ := SP_k h
  have h2p := Nat.two_pow_pos (kn k)
  have hall : CL (d + 4) 91 [jR 36, jR 29, jR 3, jR 16] μ = bI (rI (re k w (fun _ _ => true) 0 10 (2 ^ kn k - 1) : Int) μ) fun x2 μ2 => if x2 = 0 then bI (CL (d + 3) 117 [jR 29, jI ((2 ^ kn k - 1 : Nat) : Int)] μ2) fun x3 μ3 => if x3 = 0 then rI (-1) μ3 else bV (CL (d + 3) 92 [jR 36, jR 29] μ3) fun μ4 => bV (CL (d + 3) 94 [jR 36, jR 29, jI ((2 ^ kn k - 1 : Nat) : Int)] μ4) fun μ5 => EV (d + 3) T_X5_joiningStuffs 1 [some (jR 36), none, some (jR 3), some (jR 16), none, some (jI 1), none] [] μ5 else rI 0 μ2 := by
    rw [e_X5_joiningStuffs, c_X1_all _ hk, bI_r, c_ends _ h _ (by omega)]
  have hre := re_all hko w
  have hst := stk_stG hko w
  rw [hall, bI_r]
  by_cases hCA : CA w (kst k) (khe k) (kn k)
  · refine ⟨μ, 0, ?_, fun _ _ _ => rfl, Or.inl ⟨rfl, hCA⟩⟩
    have := hre.mpr hCA
    rw [if_neg (show ¬ ((re k w (fun _ _ => true) 0 10 (2 ^ kn k - 1) : Nat) : Int) = 0 by omega)]
  · have hz : re k w (fun _ _ => true) 0 10 (2 ^ kn k - 1) = 0 := by
      by_cases hz : re k w (fun _ _ => true) 0 10 (2 ^ kn k - 1) = 0
      · exact hz
      · exact absurd (hre.mp hz) hCA
    rw [if_pos (show ((re k w (fun _ _ => true) 0 10 (2 ^ kn k - 1) : Nat) : Int) = 0 by omega), c_X8_fits _ h.1 _ (by omega), bI_r]
    cases hs : stk k w (2 ^ kn k - 1) with
    | false =>
      refine ⟨μ, -1, if_pos rfl, fun _ _ _ => rfl, Or.inr ⟨hCA, Or.inl ⟨rfl, fun c _ _ hJ => ?_⟩⟩⟩
      have h1 : stG w (kst k) (kn k) := fun u hu => by
        have h2 := hJ.1 u hu
        have e1 : cnt (fun x => (stX k c x).testBit u) (kn k + 1) = cnt (fun x => (stX k c x).testBit u) (kn k) + (if (stX k c (kn k)).testBit u then 1 else 0) := rfl
        have e2 : cnt (fun x => (stX k c x).testBit u) (kn k) = cnt (fun x => (kst k x).testBit u) (kn k) := cnt_cg (fun x hx => by rw [stX_o hx])
        rw [e1, e2] at h2
        omega
      rw [hst.mpr h1] at hs
      cases hs
    | true =>
      obtain ⟨μ1, e1, f1, g1⟩ := c_X5_findBeginnings d h
      have hs1 : SP μ1 k w (fun _ _ => true) 0 10 := SP_cg h (fun q _ _ => f1 q (by omega))
      obtain ⟨μ2, e2, f2, g2⟩ := c_X5_findGaps (d + 1) hs1 g1
      have hk2 : KI μ2 k := KI_cg hk (fun q _ _ => (f2 q (by omega)).trans (f1 q (by omega)))
      have hw2 : LI μ2 16 w := LI_cg hw ((f2 16 (by decide)).trans (f1 16 (by decide))) ((f2 17 (by decide)).trans (f1 17 (by decide)))
      have hj : ∀ b : Nat, b < 256 → ∀ d, CL (d + 3) 95 [jR 36, jI b, jR 3, jR 16] μ2 = rI (if jnA k w b then 1 else 0) μ2 := fun b hb d => c_X5_joins d hk2 hw2 g2 b hb
      have hJ : ∀ b, jnA k w b = true ↔ Jm k w b := jnA_i hko hs hCA
      -- within a size
      have inner : ∀ r b s : Nat, b + r = 256 → 1 ≤ b → s ≤ 8 → (∀ c, 1 ≤ c → c < 256 → Jm k w c → s ≤ pc c) → (∀ c, 1 ≤ c → c < b → Jm k w c → s < pc c) → (EV (d + 3) T_X5_joiningStuffs 2 [some (jR 36), none, some (jR 3), some (jR 16), none, some (jI s), some (jI b)] [] μ2 = EV (d + 3) T_X5_joiningStuffs 1 [some (jR 36), none, some (jR 3), some (jR 16), none, some (jI ((s + 1 : Nat) : Int)), none] [] μ2 ∧ ∀ c, 1 ≤ c → c < 256 → Jm k w c → s + 1 ≤ pc c) ∨ ∃ b : Nat, EV (d + 3) T_X5_joiningStuffs 2 [some (jR 36), none, some (jR 3), some (jR 16), none, some (jI s), some (jI (256 - r : Int))] [] μ2 = rI (b : Int) μ2 ∧ BJ k w b := by
        intro r
        induction r with
        | zero =>
          intro b s hb h1 h8 hge hlt
          refine Or.inl ⟨?_, fun c c1 c2 hc => hlt c c1 (by omega) hc⟩
          rw [e_X5_joiningStuffs_2, if_pos (by omega), w_s s (by omega)]
        | succ r ih =>
          intro b s hb h1 h8 hge hlt
          have hp := pc_12 b
          have eb : ((256 : Int) - ((r + 1 : Nat) : Int)) = (b : Int) := by omega
          have eb1 : ((256 : Int) - (r : Int)) = ((b + 1 : Nat) : Int) := by omega
          have next : (Jm k w b → s < pc b) → _ := fun hnb => ih (b + 1) s (by omega) (by omega) h8 hge (fun c c1 c2 hc => by
            by_cases hcb : c = b
            · rw [hcb]
              exact hnb (by rw [← hcb]; exact hc)
            · exact hlt c c1 (by omega) hc)
          rw [eb1] at next
          have step : EV (d + 3) T_X5_joiningStuffs 2 [some (jR 36), none, some (jR 3), some (jR 16), none, some (jI s), some (jI b)] [] μ2 = if pc b = s ∧ jnA k w b = true then rI (b : Int) μ2 else EV (d + 3) T_X5_joiningStuffs 2 [some (jR 36), none, some (jR 3), some (jR 16), none, some (jI s), some (jI ((b + 1 : Nat) : Int))] [] μ2 := by
            rw [e_X5_joiningStuffs_2, if_neg (by omega), c_bc _ _ _ (by omega), bI_r, w_s b (by omega)]
            by_cases hps : pc b = s
            · rw [if_pos (by omega), hj b (by omega), bI_r]
              cases hjn : jnA k w b with
              | false => rw [z_f, if_neg (fun z => by cases z.2)]
              | true => rw [z_t, if_pos ⟨hps, rfl⟩]
            · rw [if_neg (by omega), if_neg (fun z => hps z.1)]
          rw [eb]
          by_cases hc : pc b = s ∧ jnA k w b = true
          · refine Or.inr ⟨b, by rw [step, if_pos hc], ⟨h1, by omega⟩, (hJ b).mp hc.2, fun c c1 c2 hJc => ?_⟩
            have a1 := hge c c1 c2 hJc
            by_cases hcb : c < b
            · have := hlt c c1 hcb hJc
              omega
            · omega
          · rw [step, if_neg hc]
            refine next (fun hJb => ?_)
            have a1 := hge b h1 (by omega) hJb
            have : ¬ pc b = s := fun z => hc ⟨z, (hJ b).mpr hJb⟩
            omega
      have outer : ∀ r s : Nat, s + r = 9 → 1 ≤ s → (∀ c, 1 ≤ c → c < 256 → Jm k w c → s ≤ pc c) → ∃ v : Int, EV (d + 3) T_X5_joiningStuffs 1 [some (jR 36), none, some (jR 3), some (jR 16), none, some (jI s), none] [] μ2 = rI v μ2 ∧ (v = -1 ∧ (∀ c, 1 ≤ c → c < 256 → ¬ Jm k w c) ∨ ∃ b : Nat, v = (b : Int) ∧ BJ k w b) := by
        intro r
        induction r with
        | zero =>
          intro s hs9 _ hge
          refine ⟨-1, ?_, Or.inl ⟨rfl, fun c c1 c2 hc => ?_⟩⟩
          · rw [e_X5_joiningStuffs_1, if_pos (by omega)]
          · have := hge c c1 c2 hc
            have := (pc_8 c c2).1
            omega
        | succ r ih =>
          intro s hs9 hs1 hge
          have i1 := inner 255 1 s (by decide) (Nat.le_refl 1) (by omega) hge (fun c c1 c2 _ => by omega)
          rw [e_X5_joiningStuffs_1, if_neg (by omega)]
          rcases i1 with ⟨z1, z2⟩ | ⟨b, z1, z2⟩
          · have z1 : EV (d + 3) T_X5_joiningStuffs 2 [some (jR 36), none, some (jR 3), some (jR 16), none, some (jI s), some (jI 1)] [] μ2 = _ := z1
            rw [z1]
            exact ih (s + 1) (by omega) (by omega) z2
          · have z1 : EV (d + 3) T_X5_joiningStuffs 2 [some (jR 36), none, some (jR 3), some (jR 16), none, some (jI s), some (jI 1)] [] μ2 = _ := z1
            exact ⟨b, z1, Or.inr ⟨b, rfl, z2⟩⟩
      obtain ⟨v, z1, z2⟩ := outer 8 1 (by decide) (Nat.le_refl 1) (fun c c1 c2 _ => (pc_8 c c2).2 c1)
      refine ⟨μ2, v, ?_, fun q a b => (f2 q b).trans (f1 q a), Or.inr ⟨hCA, z2⟩⟩
      rw [z_t, e1, bV_r, e2, bV_r]
      exact z1
theorem c_X11_made (d : Nat) {μ : jM} {k : Kt} {w : Lw} {r : List Int} (hk : KI μ k) (hw : LI μ 16 w) (hr : RI μ r) : ∃ (μ' : jM) (v : Int), CL (d + 6) 199 [jR 0] μ = rI v μ' ∧ fC μ' μ ∧ (v = 0 ∧ CA w (kst k) (khe k) (kn k) ∧ RI μ' [0] ∨ ¬ CA w (kst k) (khe k) (kn k) ∧ (v = -2 ∧ (∀ c, 1 ≤ c → c < 256 → ¬ Jm k w c) ∧ RI μ' r ∨ ∃ b : Nat, v = (pc b : Nat) ∧ BJ k w b ∧ RI μ' [(b : Int)])) := by
  obtain ⟨μ1, e1, f1, t1, b1⟩ := c_X11_beginAnew d hk hw
  obtain ⟨μ2, e2, f2, s2⟩ := c_reach (d + 1) t1 b1 (Sok_0 k)
  have c2 : fC μ2 μ := fC_t (fC_29 (fun q hq => f1 q (by omega))) ⟨fun q hq => f2 q (by omega), by rw [f2 12 (by decide)]⟩
  obtain ⟨μ3, v, e3, f3, h3⟩ := c_X5_joiningStuffs (d + 1) (fC_KI c2 hk) (fC_LI c2 hw) s2
  have c3 : fC μ3 μ := fC_t c2 ⟨fun q hq => f3 q (by omega) (by omega), by rw [f3 12 (by decide) (by decide)]⟩
  obtain ⟨μ4, e4, f4, r4⟩ := c_X7_clear (d + 4) (μ := μ3)
  have fin : ∀ b : Nat, b < 256 → v = (b : Int) → ∃ μ', CL (d + 6) 199 [jR 0] μ = rI (pc b : Nat) μ' ∧ fC μ' μ ∧ RI μ' [(b : Int)] := fun b hb hv => by
    obtain ⟨μ5, e5, f5, r5⟩ := c_X7_add (d + 4) r4 (b : Int) (by simp)
    refine ⟨μ5, ?_, fC_t c3 (fC_t (fC_row f4) (fC_row f5)), r5⟩
    rw [e_X11_made, e1, bV_r, e2, bV_r, e3, bI_r, hv, if_neg (by omega), e4, bV_r, e5, bV_r, c_bc _ _ _ (by omega), bI_r]
  rcases h3 with ⟨h1, h2⟩ | ⟨h1, h2⟩
  · obtain ⟨μ5, e5, f5, r5⟩ := fin 0 (by decide) h1
    exact ⟨μ5, 0, e5, f5, Or.inl ⟨rfl, h2, r5⟩⟩
  · rcases h2 with ⟨h2, h4⟩ | ⟨b, h2, h4⟩
    · refine ⟨μ3, -2, ?_, c3, Or.inr ⟨h1, Or.inl ⟨rfl, h4, RI_cg hr ?_ ?_⟩⟩⟩
      · rw [e_X11_made, e1, bV_r, e2, bV_r, e3, bI_r, h2, if_pos rfl]
      · rw [f3 50 (by decide) (by decide), f2 50 (by decide), f1 50 (by omega)]
      · rw [f3 51 (by decide) (by decide), f2 51 (by decide), f1 51 (by omega)]
    · obtain ⟨μ5, e5, f5, r5⟩ := fin b h4.1.2 h2
      exact ⟨μ5, _, e5, f5, Or.inr ⟨h1, Or.inr ⟨b, rfl, h4, r5⟩⟩⟩
/-! ## the reference -/
def fM (ν' ν : jM) : Prop := (∀ q, q ≠ 71 → q ≠ 72 → q ≠ 73 → q ≠ 95 → ν' q = ν q)
theorem c_X12_made (d : Nat) {μ : jM} {k : Kt} {w : Lw} {r : List Int} (hk : KR μ k) (hw : LR μ w) (hr : RR μ r) : ∃ (μ' : jM) (v : Int), CL (d + 4) 310 [jR 69] μ = rI v μ' ∧ ((∀ q, q ≠ 69 → q ≠ 71 → q ≠ 72 → q ≠ 73 → q ≠ 81 → q ≠ 95 → μ' q = μ q) ∧ ∀ j : Int, j ≠ 19 → j ≠ 20 → μ' 69 j = μ 69 j) ∧ KR μ' k ∧ (v = 0 ∧ CA w (kst k) (khe k) (kn k) ∧ RR μ' [0] ∨ ¬ CA w (kst k) (khe k) (kn k) ∧ (v = -2 ∧ (∀ c, 1 ≤ c → c < 256 → ¬ Jm k w c) ∧ RR μ' r ∨ ∃ b : Nat, v = (pc b : Nat) ∧ BJ k w b ∧ RR μ' [(b : Int)])) := by
  have hko := hk.1
  have h10 := hko.1
  have hk0 := th0_KR hk
  have hw0 := th0_LR hw
  have hr0 := th0_RR hr
  have hF0 : FX (jup μ 69 20 0) (kn k) (kst k) (khe k) := fun x hx => by
    obtain ⟨a1, -, a3, -⟩ := hk0.2.2.2.1 x hx
    have a5 := hko.2.2.1 x hx
    exact ⟨a1, a5.2.1, a3, a5.2.2.2.1⟩
  obtain ⟨μ1, v1, e1, f1, h1⟩ := c_X12_canAll d hw0 (kn k) (by omega) (kst k) (khe k) hF0
  have k1 : KR μ1 k := KR_cg hk0 (fun q _ _ => f1 q (by omega)) (by rw [f1 69 (by decide)]) (by rw [f1 69 (by decide)])
  have hg : (0 : Int) ≤ (kn k : Int) ∧ (kn k : Int) < 11 := by omega
  have head : CL (d + 4) 310 [jR 69] μ = bI (rI v1 μ1) fun x1 μ1 => if x1 = 0 then gd (0 ≤ (μ1 69 1) ∧ (μ1 69 1) < 11) (gd ((0 : Int) = 0 ∨ (0 : Int) = 1) (gd (0 ≤ ((jup μ1 73 (μ1 69 1) 0) 69 1) ∧ ((jup μ1 73 (μ1 69 1) 0) 69 1) < 11) (EV (d + 3) T_X12_made 1 [some (jR 69), some (jI (-1)), some (jI 1)] [] (jup (jup μ1 73 (μ1 69 1) 0) 72 ((jup μ1 73 (μ1 69 1) 0) 69 1) 0)))) else bV (CL (d + 3) 209 [jR 69, jI 0] (jup μ1 69 19 0)) fun μ2 => rI 0 μ2 := by
    rw [e_X12_made, hk0.2.1, e1]
  have tfr : ∀ {m m' : jM}, (∀ q, q ≠ 69 → q ≠ 81 → m' q = jup m 69 19 0 q) → (∀ j : Int, j ≠ 19 → m' 69 j = jup m 69 19 0 69 j) → KR m k → KR m' k := fun {m m'} f g hm => KR_cg hm (fun q _ _ => (f q (by omega) (by omega)).trans (jup_ne (by omega))) ((g 1 (by decide)).trans (jup_m (by decide))) ((g 6 (by decide)).trans (jup_m (by decide)))
  rcases h1 with ⟨h1, h2⟩ | ⟨h1, h2⟩
  · obtain ⟨μ2, e2, f2, g2, r2⟩ := c_X12_tell (d + 2) (RR_0 μ1) 0 (by simp)
    refine ⟨μ2, 0, ?_, ⟨fun q a b c e f g => ?_, fun j a b => ?_⟩, tfr f2 g2 k1, Or.inl ⟨rfl, h2, r2⟩⟩
    · rw [head, bI_r, h1, if_neg (by decide), e2, bV_r]
    · rw [f2 q a f, jup_ne a, f1 q g, jup_ne a]
    · rw [g2 j a, jup_m a, f1 69 (by decide), jup_m b]
  · -- one more, cold
    let ν : jM := jup (jup μ1 73 (kn k : Int) 0) 72 (kn k : Int) 0
    have hst : CL (d + 4) 310 [jR 69] μ = EV (d + 3) T_X12_made 1 [some (jR 69), some (jI (-1)), some (jI 1)] [] ν := by
      have e69 : jup μ1 73 (kn k : Int) 0 69 1 = (kn k : Int) := (jup_nf (by decide)).trans k1.2.1
      rw [head, bI_r, h1, if_pos rfl, k1.2.1, gd_t hg, gd_t (by decide), e69, gd_t hg]
    -- what stands while it goes on
    let G : jM → Prop := fun m => (∀ q, q ≠ 71 → q ≠ 72 → q ≠ 73 → q ≠ 95 → m q = μ1 q) ∧ (∀ q (z : Int), (q = 71 ∨ q = 72 ∨ q = 73) → z ≠ (kn k : Int) → m q z = μ1 q z) ∧ m 73 (kn k : Int) = 0
    have G0 : G ν := ⟨fun q a b c e => (jup_ne b).trans (jup_ne c), fun q z hq hz => by
      show jup (jup μ1 73 (kn k : Int) 0) 72 (kn k : Int) 0 q z = _
      rw [jup_m hz, jup_m hz], by
      show jup (jup μ1 73 (kn k : Int) 0) 72 (kn k : Int) 0 73 (kn k : Int) = _
      rw [jup_nf (by decide)]
      exact jup_r _ _ _ _⟩
    have GK : ∀ m, G m → KR m k := fun m hG => by
      obtain ⟨a1, a2, a3, a4, a5⟩ := k1
      refine ⟨a1, by rw [hG.1 69 (by decide) (by decide) (by decide) (by decide)]; exact a2, by rw [hG.1 69 (by decide) (by decide) (by decide) (by decide)]; exact a3, fun x hx => ?_, fun g hg => ?_⟩
      · rw [hG.2.1 71 _ (by decide) (by omega), hG.2.1 72 _ (by decide) (by omega), hG.2.1 73 _ (by decide) (by omega), hG.1 74 (by decide) (by decide) (by decide) (by decide)]
        exact a4 x hx
      · rw [hG.1 75 (by decide) (by decide) (by decide) (by decide), hG.1 76 (by decide) (by decide) (by decide) (by decide)]
        exact a5 g hg
    have try1 : ∀ (m : jM) (b : Nat), G m → 1 ≤ b → b < 256 → ∃ m' v, CL (d + 3) 309 [jR 69, jI (w32 (((jup m 71 (m 69 1) (b : Int)) 69 1) + 1))] (jup m 71 (m 69 1) (b : Int)) = rI v m' ∧ G m' ∧ (v = 1 ∧ Jm k w b ∨ v = 0 ∧ ¬ Jm k w b) := fun m b hG b1 b2 => by
      have km := GK m hG
      have e69 : jup m 71 (kn k : Int) (b : Int) 69 1 = (kn k : Int) := (jup_nf (by decide)).trans km.2.1
      have hwm : LR (jup m 71 (kn k : Int) (b : Int)) w := by
        have o : ∀ q, q = 69 ∨ q = 70 → jup m 71 (kn k : Int) (b : Int) q = jup μ 69 20 0 q := fun q hq => (jup_ne (by omega)).trans ((hG.1 q (by omega) (by omega) (by omega) (by omega)).trans (f1 q (by omega)))
        exact LR_cg hw0 (o 70 (Or.inr rfl)) (by rw [o 69 (Or.inl rfl)]) (by rw [o 69 (Or.inl rfl)]) (by rw [o 69 (Or.inl rfl)])
      have hFm : FX (jup m 71 (kn k : Int) (b : Int)) (kn k + 1) (stX k b) (heX k) := fun x hx => by
        by_cases hxk : x = kn k
        · subst hxk
          rw [stX_n, heX_n]
          refine ⟨jup_r _ _ _ _, b2, ?_, by decide⟩
          rw [jup_nf (by decide)]
          exact hG.2.2
        · have hx2 : x < kn k := by omega
          have a5 := hko.2.2.1 x hx2
          obtain ⟨c1, -, c3, -⟩ := km.2.2.2.1 x hx2
          rw [stX_o hx2, heX_o hx2]
          refine ⟨?_, a5.2.1, ?_, a5.2.2.2.1⟩
          · rw [jup_m (by omega)]
            exact c1
          · rw [jup_nf (by decide)]
            exact c3
      obtain ⟨m2, v, e2, f2, h2⟩ := c_X12_canAll d hwm (kn k + 1) (by omega) (stX k b) (heX k) hFm
      refine ⟨m2, v, ?_, ⟨fun q a c e f => ?_, fun q z hq hz => ?_, ?_⟩, h2⟩
      · rw [km.2.1, e69, w_s (kn k) (by omega)]
        exact e2
      · rw [f2 q f, jup_ne a]
        exact hG.1 q a c e f
      · rw [f2 q (by omega), jup_m hz]
        exact hG.2.1 q z hq hz
      · rw [f2 73 (by decide), jup_nf (by decide)]
        exact hG.2.2
    let B : Nat → Int → Prop := fun x v => v = -1 ∧ (∀ c, 1 ≤ c → c < x → ¬ Jm k w c) ∨ ∃ b : Nat, v = (b : Int) ∧ 1 ≤ b ∧ b < x ∧ Jm k w b ∧ ∀ c, 1 ≤ c → c < x → Jm k w c → pc b < pc c ∨ pc b = pc c ∧ b ≤ c
    have one : ∀ (x : Nat) (s : Int × jM), 1 ≤ x → x < 256 → B x s.1 → G s.2 → ∃ s' : Int × jM, EV (d + 3) T_X12_made 1 [some (jR 69), some (jI s.1), some (jI x)] [] s.2 = EV (d + 3) T_X12_made 1 [some (jR 69), some (jI s'.1), some (jI ((x + 1 : Nat) : Int))] [] s'.2 ∧ B (x + 1) s'.1 ∧ G s'.2 := by
      intro x s x1 x2 hB hG
      have km := GK s.2 hG
      have hg2 : (0 : Int) ≤ s.2 69 1 ∧ s.2 69 1 < 11 := by
        rw [km.2.1]
        exact hg
      obtain ⟨m', v, e2, G2, h2⟩ := try1 s.2 x hG x1 x2
      rw [e_X12_made_1, if_pos (by omega), w_s x (by omega)]
      rcases hB with ⟨hv, hn⟩ | ⟨b, hv, b1, b2, hJ, hbest⟩
      · rw [hv, if_pos rfl, gd_t hg2, e2, bI_r]
        rcases h2 with ⟨h2, h3⟩ | ⟨h2, h3⟩
        · rw [h2, if_neg (by decide)]
          refine ⟨((x : Int), m'), rfl, Or.inr ⟨x, rfl, x1, Nat.lt_succ_self x, h3, fun c c1 c2 hc => ?_⟩, G2⟩
          by_cases hcx : c = x
          · subst hcx
            exact Or.inr ⟨rfl, Nat.le_refl c⟩
          · exact absurd hc (hn c c1 (by omega))
        · rw [h2, if_pos rfl]
          refine ⟨(-1, m'), rfl, Or.inl ⟨rfl, fun c c1 c2 hc => ?_⟩, G2⟩
          by_cases hcx : c = x
          · subst hcx
            exact h3 hc
          · exact hn c c1 (by omega) hc
      · rw [hv, if_neg (by omega), c_bc _ _ _ (by omega), bI_r, c_bc _ _ _ (by omega), bI_r]
        by_cases hp : pc x < pc b
        · rw [if_pos (by omega), gd_t hg2, e2, bI_r]
          rcases h2 with ⟨h2, h3⟩ | ⟨h2, h3⟩
          · rw [h2, if_neg (by decide)]
            refine ⟨((x : Int), m'), rfl, Or.inr ⟨x, rfl, x1, Nat.lt_succ_self x, h3, fun c c1 c2 hc => ?_⟩, G2⟩
            by_cases hcx : c = x
            · subst hcx
              exact Or.inr ⟨rfl, Nat.le_refl c⟩
            · have := hbest c c1 (by omega) hc
              omega
          · rw [h2, if_pos rfl]
            refine ⟨((b : Int), m'), rfl, Or.inr ⟨b, rfl, b1, by omega, hJ, fun c c1 c2 hc => ?_⟩, G2⟩
            by_cases hcx : c = x
            · subst hcx
              exact absurd hc h3
            · exact hbest c c1 (by omega) hc
        · rw [if_neg (by omega)]
          refine ⟨((b : Int), s.2), rfl, Or.inr ⟨b, rfl, b1, by omega, hJ, fun c c1 c2 hc => ?_⟩, hG⟩
          by_cases hcx : c = x
          · subst hcx
            omega
          · exact hbest c c1 (by omega) hc
    obtain ⟨s, e3, h3⟩ := lp_i (fun (i : Nat) (s : Int × jM) => EV (d + 3) T_X12_made 1 [some (jR 69), some (jI s.1), some (jI ((i + 1 : Nat) : Int))] [] s.2) (fun i s => B (i + 1) s.1 ∧ G s.2) 255 (fun i s hi hI => by
      obtain ⟨s', a1, a2, a3⟩ := one (i + 1) s (by omega) (by omega) hI.1 hI.2
      exact ⟨s', a1, a2, a3⟩) ((-1 : Int), ν) ⟨Or.inl ⟨rfl, fun c c1 c2 _ => by omega⟩, G0⟩
    have h3 : B 256 s.1 ∧ G s.2 := h3
    have e3 : EV (d + 3) T_X12_made 1 [some (jR 69), some (jI (-1)), some (jI 1)] [] ν = EV (d + 3) T_X12_made 1 [some (jR 69), some (jI s.1), some (jI 256)] [] s.2 := e3
    obtain ⟨hB, hG⟩ := h3
    have gq : ∀ q, q ≠ 69 → q ≠ 71 → q ≠ 72 → q ≠ 73 → q ≠ 95 → s.2 q = μ q := fun q a b c e f => (hG.1 q b c e f).trans ((f1 q f).trans (jup_ne a))
    have gj : ∀ j : Int, j ≠ 20 → s.2 69 j = μ 69 j := fun j hj => by
      rw [hG.1 69 (by decide) (by decide) (by decide) (by decide), f1 69 (by decide)]
      exact jup_m hj
    rcases hB with ⟨hv, hn⟩ | ⟨b, hv, b1, b2, hJ, hbest⟩
    · refine ⟨s.2, -2, ?_, ⟨fun q a b c e _ g => gq q a b c e g, fun j _ b => gj j b⟩, GK _ hG, Or.inr ⟨h2, Or.inl ⟨rfl, hn, RR_cg hr (gq 81 (by decide) (by decide) (by decide) (by decide) (by decide)) (gj 19 (by decide))⟩⟩⟩
      rw [hst, e3, e_X12_made_1, if_neg (by decide), hv, if_pos rfl]
    · obtain ⟨m2, e2, f2, g2, r2⟩ := c_X12_tell (d + 2) (RR_0 s.2) (b : Int) (by simp)
      refine ⟨m2, (pc b : Nat), ?_, ⟨fun q a b c e f g => ?_, fun j a b => ?_⟩, tfr f2 g2 (GK _ hG), Or.inr ⟨h2, Or.inr ⟨b, rfl, ⟨⟨b1, b2⟩, hJ, hbest⟩, r2⟩⟩⟩
      · rw [hst, e3, e_X12_made_1, if_neg (by decide), hv, if_neg (by omega), e2, bV_r, c_bc _ _ _ (by omega), bI_r]
      · rw [f2 q a f, jup_ne a]
        exact gq q a b c e g
      · rw [g2 j a, jup_m a]
        exact gj j b
theorem q_made (d e : Nat) {μ ν : jM} {k : Kt} {w : Lw} {r : List Int} (hk : KI μ k) (hw : LI μ 16 w) (hr : RI μ r) (gk : KR ν k) (gw : LR ν w) (gr : RR ν r) : ∃ (v : Int) (μ' ν' : jM) (r' : List Int), CL (d + 6) 199 [jR 0] μ = rI v μ' ∧ CL (e + 4) 310 [jR 69] ν = rI v ν' ∧ fC μ' μ ∧ ((∀ q, q ≠ 69 → q ≠ 71 → q ≠ 72 → q ≠ 73 → q ≠ 81 → q ≠ 95 → ν' q = ν q) ∧ ∀ j : Int, j ≠ 19 → j ≠ 20 → ν' 69 j = ν 69 j) ∧ KR ν' k ∧ RI μ' r' ∧ RR ν' r' := by
  obtain ⟨μ', v, e1, c1, h1⟩ := c_X11_made d hk hw hr
  obtain ⟨ν', v', e2, c2, k2, h2⟩ := c_X12_made e gk gw gr
  rcases h1 with ⟨a1, a2, a3⟩ | ⟨a1, a2⟩
  · rcases h2 with ⟨b1, b2, b3⟩ | ⟨b1, b2⟩
    · subst a1
      subst b1
      exact ⟨0, μ', ν', [0], e1, e2, c1, c2, k2, a3, b3⟩
    · exact absurd a2 b1
  · rcases h2 with ⟨b1, b2, b3⟩ | ⟨b1, b2⟩
    · exact absurd b2 a1
    · rcases a2 with ⟨x1, x2, x3⟩ | ⟨b, x1, x2, x3⟩
      · rcases b2 with ⟨y1, y2, y3⟩ | ⟨c, y1, y2, y3⟩
        · subst x1
          subst y1
          exact ⟨-2, μ', ν', r, e1, e2, c1, c2, k2, x3, y3⟩
        · exact absurd y2.2.1 (x2 c y2.1.1 y2.1.2)
      · rcases b2 with ⟨y1, y2, y3⟩ | ⟨c, y1, y2, y3⟩
        · exact absurd x2.2.1 (y2 b x2.1.1 x2.1.2)
        · have hbc := BJ_u x2 y2
          subst hbc
          subst x1
          subst y1
          exact ⟨_, μ', ν', _, e1, e2, c1, c2, k2, x3, y3⟩
