/-! ## best, fair, cheap, dear: the class -/
theorem fT_C {μ' μ : jM} (f : fT μ' μ) : fC μ' μ := ⟨fun q hq => f.1 q (by omega) (by omega), f.2 3 (by decide)⟩
/-- rows of a length, within a purse -/
def GJ (k : Kt) (w : Lw) (A : Ap) (s0 l0 : Nat) (N : Nat) (P : Int) (s l : Nat) : Bool := rr k w A s0 l0 s l && (decide (pc s = pc s0 + N) && decide (kcs k (nd s s0) ≤ P))
theorem GJ_i {k : Kt} {w : Lw} {A : Ap} {s0 l0 N : Nat} {P : Int} {s l : Nat} : GJ k w A s0 l0 N P s l = true ↔ rr k w A s0 l0 s l = true ∧ pc s = pc s0 + N ∧ kcs k (nd s s0) ≤ P := by
  unfold GJ
  rw [Bool.and_eq_true, Bool.and_eq_true, decide_eq_true_eq, decide_eq_true_eq]
theorem sm_z {f : Nat → Int} {n m : Nat} (hnm : n ≤ m) (h : ∀ i, n ≤ i → i < m → f i = 0) : sm f m = sm f n := by
  induction m with
  | zero =>
    have : n = 0 := by omega
    rw [this]
  | succ m ih =>
    by_cases hz : n = m + 1
    · rw [hz]
    · show sm f m + f m = _
      rw [ih (by omega) (fun i a b => h i a (by omega)), h m (by omega) (by omega), Int.add_zero]
theorem ws_kn {k : Kt} (h10 : kn k ≤ 10) (f : Nat → Int) {t : Nat} (ht : t < 2 ^ kn k) : ws f t = sm (fun d => if t.testBit d then f d else 0) (kn k) := sm_z h10 (fun i a b => by
  have : t.testBit i = false := Nat.testBit_lt_two_pow (Nat.lt_of_lt_of_le ht (p2_le a))
  show (if t.testBit i = true then f i else 0) = 0
  rw [this, if_neg (by decide)])
theorem kcs_ws {k : Kt} (h10 : kn k ≤ 10) {t : Nat} (ht : t < 2 ^ kn k) : kcs k t = ws (fun x => (kco k x : Int)) t := (ws_kn h10 (fun x => (kco k x : Int)) ht).symm
theorem kcs_wC {k : Kt} (h10 : kn k ≤ 10) {t : Nat} (ht : t < 2 ^ kn k) : ws (fun x => if x < kn k then (kco k x : Int) else 0) t = kcs k t := by
  rw [ws_kn h10 _ ht]
  exact sm_cg _ (fun i hi => by
    show (if t.testBit i = true then (if i < kn k then (kco k i : Int) else 0) else 0) = _
    rw [if_pos hi])
theorem kcs_b2 {k : Kt} (hk : Kok k) (t : Nat) : 0 ≤ kcs k t ∧ kcs k t ≤ 990 := by
  have h : ∀ n, n ≤ kn k → 0 ≤ sm (fun d => if t.testBit d then (kco k d : Int) else 0) n ∧ sm (fun d => if t.testBit d then (kco k d : Int) else 0) n ≤ 99 * n := fun n => by
    induction n with
    | zero => exact fun _ => ⟨Int.le_refl 0, by show (0 : Int) ≤ 99 * ((0 : Nat) : Int); decide⟩
    | succ n ih =>
      intro hn
      have h1 := ih (by omega)
      have h2 := (hk.2.2.1 n (by omega)).2.2.1
      show 0 ≤ sm _ n + (if t.testBit n = true then (kco k n : Int) else 0) ∧ sm _ n + (if t.testBit n = true then (kco k n : Int) else 0) ≤ _
      split <;> omega
  have h1 := h (kn k) (Nat.le_refl _)
  have h2 := hk.1
  unfold kcs
  omega
theorem wo_b {W : Nat → Nat → Int} {t : Nat} : ∀ {n : Nat}, (∀ i x, i < n → x < 10 → t.testBit x = true → -6000 ≤ W i x ∧ W i x ≤ 6000) → -60000 ≤ wo W t n
  | 0, _ => by
    show (-60000 : Int) ≤ 1000000
    decide
  | n + 1, h => by
    have h1 := wo_b (n := n) (fun i x hi => h i x (by omega))
    have h2 := ws_b (f := W n) (t := t) (B := 6000) (by decide) (fun x hx hb => h n x (by omega) hx hb)
    show -60000 ≤ min (wo W t n) (ws (W n) t)
    omega
theorem gpl_GJ {k : Kt} (hk : Kok k) {w : Lw} {A : Ap} {s0 l0 : Nat} (h0 : Sok k s0 l0) (N : Nat) (P : Int) (C : Nat → Int) (hC : ∀ t, t < 2 ^ kn k → (P = 999 ∨ ws C t ≤ P ↔ kcs k t ≤ P)) (s l : Nat) : gpl k w A s0 l0 2047 P C N N s l = GJ k w A s0 l0 N P s l := by
  unfold gpl
  have hiff : gpl k w A s0 l0 2047 P C N N s l = true ↔ GJ k w A s0 l0 N P s l = true := by
    unfold gpl
    rw [GJ_i, Bool.and_eq_true, Bool.and_eq_true, gl_iff]
    constructor
    · rintro ⟨h1, h2, -, h3, h4, h5⟩
      have hs := rr_st hk h0 h1
      exact ⟨h1, by omega, (hC _ (nd_lt2 hs.1)).mp h5⟩
    · rintro ⟨h1, h2, h3⟩
      have hs := rr_st hk h0 h1
      have hl : (2047 : Nat).testBit l = true := by
        have := Nat.testBit_two_pow_sub_one 11 l
        rw [show (2 : Nat) ^ 11 - 1 = 2047 from rfl] at this
        rw [this, decide_eq_true_eq]
        omega
      exact ⟨h1, hl, ⟨l, by omega, h1, hl⟩, by omega, by omega, (hC _ (nd_lt2 hs.1)).mpr h3⟩
  have e : ∀ a b : Bool, (a = true ↔ b = true) → a = b := fun a b h => by
    cases a <;> cases b <;> simp_all
  exact e _ _ hiff
/-- rows sought and told, with a word ahead -/
theorem c_seekTell (d : Nat) {μ : jM} {k : Kt} {w : Lw} {A : Ap} {s0 l0 : Nat} (h : SP μ k w A s0 l0) {n : Nat} {W : Nat → Nat → Int} {P : Int} {C : Nat → Int} (hp : PI μ k n W 2047 P C) (hW : ∀ i x, i < n → x < kn k → -6000 ≤ W i x ∧ W i x ≤ 6000) (hCb : ∀ x, x < 10 → -100000 ≤ C x ∧ C x ≤ 100000) (N : Nat) (hC : ∀ t, t < 2 ^ kn k → (P = 999 ∨ ws C t ≤ P ↔ kcs k t ≤ P)) : ∃ μ1 g, CL (d + 5) 83 [jR 36, jR 29, jI N, jI N] μ = rI g μ1 ∧ (∀ q, q ≠ 36 → q ≠ 44 → μ1 q = μ q) ∧ ((g = -1000000 ∧ ∀ s l, GJ k w A s0 l0 N P s l = false) ∨ (-1000000 < g ∧ ∃ m row, m ≤ kn k ∧ BestP k w A s0 l0 (GJ k w A s0 l0 N P) (fun s => wo W (nd s s0) n) g m row ∧ ∀ (d : Nat) (μ2 : jM) (r : List Int), (∀ q, q < 50 ∨ 51 < q → μ2 q = μ1 q) → RI μ2 r → r.length + m ≤ 20 → ∃ μ3, CL (d + 4) 89 [jR 36, jR 29, jR 50] μ2 = rV μ3 ∧ (∀ q, q ≠ 50 → q ≠ 51 → μ3 q = μ2 q) ∧ RI μ3 (r ++ ri row))) := by
  obtain ⟨hko, h10, h0, hN⟩ := SP_k h
  have hS0 := h.2.2.1
  have eG : ∀ s l, gpl k w A s0 l0 2047 P C N N s l = GJ k w A s0 l0 N P s l := gpl_GJ hko hS0 N P C hC
  have hgl : ∀ s, gl k w A s0 l0 2047 P C N N s = true → (pc s : Int) = pc s0 + N := fun s hs => by
    obtain ⟨-, h3, h4, -⟩ := gl_iff.mp hs
    omega
  obtain ⟨μ1, g, e1, f1, g1, r1⟩ := c_seek d h hp (fun i x hi hx => by have := hW i x hi hx; omega) hCb N N (fun s l hs => by
    rw [eG] at hs
    have hr := (GJ_i.mp hs).1
    have hst := rr_st hko hS0 hr
    have := wo_b (W := W) (t := nd s s0) (n := n) (fun i x hi _ hb => hW i x hi (tb_lt (nd_lt2 hst.1) hb))
    omega) (fun s t g hs ht _ _ => by
    have h1 := hgl s hs
    have h2 := hgl t ht
    omega)
  refine ⟨μ1, g, e1, f1, ?_⟩
  rcases r1 with ⟨z1, z2⟩ | ⟨hg, m, hm, m7, bp, hcr, hG, hmk⟩
  · exact Or.inl ⟨z1, fun s l => by rw [← eG]; exact z2 s l⟩
  · have bp2 := BestP_cg (Gp' := GJ k w A s0 l0 N P) (v' := fun s => wo W (nd s s0) n) (fun s l => eG s l) (fun _ _ _ => rfl) bp
    refine Or.inr ⟨hg, m, _, hm, bp2, fun d μ2 r f hr hl => ?_⟩
    have s2 : SP μ2 k w A s0 l0 := SP_cg h (fun q a b => (f q (by omega)).trans (f1 q (by omega) (by omega)))
    obtain ⟨μ3, e3, f3, r3⟩ := c_X5_tell d s2 (by rw [f 36 (by omega)]; exact m7) (fun s hs => by rw [f 44 (by omega)]; exact hmk s hs) hcr hr (by omega)
    exact ⟨μ3, e3, f3, r3⟩
theorem c_X11_tellJoy (d : Nat) {μ : jM} {k : Kt} {w : Lw} {b : List Nat} {r : List Int} (hk : KI μ k) (hw : LI μ 16 w) (hb : BI μ 20 b) (hbk : Bok (kn k) b) (hr : RI μ r) {n : Nat} {W : Nat → Nat → Int} {C0 : Nat → Int} (hp : PI μ k n W 2047 999 C0) (hW : ∀ i x, i < n → x < kn k → -6000 ≤ W i x ∧ W i x ≤ 6000) (N P : Nat) (hP : P ≤ 999) : ∃ μ', (∀ q, q < 29 ∨ 51 < q → μ' q = μ q) ∧ ((CL (d + 6) 187 [jR 0, jI N, jI P] μ = rI (-2) μ' ∧ (∀ s l, GJ k w (fun _ _ => true) (bset b) (bla b) N P s l = false) ∧ RI μ' r) ∨ ∃ g m row, CL (d + 6) 187 [jR 0, jI N, jI P] μ = rI 1 μ' ∧ BestP k w (fun _ _ => true) (bset b) (bla b) (GJ k w (fun _ _ => true) (bset b) (bla b) N P) (fun s => wo W (nd s (bset b)) n) g m row ∧ RI μ' (g :: ri row)) := by
  have hko := hk.1
  have h10 := hko.1
  obtain ⟨μ1, e1, f1, s1⟩ := c_X11_goOn d hk hw hb hbk alw_1023
  have k1 : KI μ1 k := KI_cg hk (fun q _ _ => f1 q (by omega))
  have p1 : PI μ1 k n W 2047 999 C0 := PI_cg hp (fun q _ _ _ _ => f1 q (by omega)) (fun j _ => by rw [f1 36 (by omega)])
  obtain ⟨μ2, e2, f2, p2⟩ := c_X5_limit (d + 2) k1 p1 (P : Int)
  have s2 : SP μ2 k w (fun _ _ => true) (bset b) (bla b) := SP_cg s1 (fun q _ _ => f2 q (by omega) (by omega))
  obtain ⟨μ3, g, e3, f3, r3⟩ := c_seekTell d s2 p2 hW (fun x _ => by
    show -100000 ≤ (if x < kn k then (kco k x : Int) else 0) ∧ (if x < kn k then (kco k x : Int) else 0) ≤ 100000
    by_cases hx : x < kn k
    · have := (hko.2.2.1 x hx).2.2.1
      rw [if_pos hx]
      omega
    · rw [if_neg hx]
      omega) N (fun t ht => by
    rw [kcs_wC h10 ht]
    have := kcs_b2 hko t
    omega)
  have f30 : ∀ q, q < 29 ∨ 51 < q → μ3 q = μ q := fun q hq => (f3 q (by omega) (by omega)).trans ((f2 q (by omega) (by omega)).trans (f1 q (by omega)))
  have r30 : RI μ3 r := RI_cg hr ((f3 50 (by decide) (by decide)).trans ((f2 50 (by decide) (by decide)).trans (f1 50 (by omega)))) ((f3 51 (by decide) (by decide)).trans ((f2 51 (by decide) (by decide)).trans (f1 51 (by omega))))
  rcases r3 with ⟨z1, z2⟩ | ⟨hg, m, row, hm, bp, tell⟩
  · refine ⟨μ3, f30, Or.inl ⟨?_, z2, r30⟩⟩
    rw [e_X11_tellJoy, e1, bV_r, e2, bV_r, e3, bI_r, if_pos z1]
  · obtain ⟨μ4, e4, f4, r4⟩ := c_X7_clear (d + 4) (μ := μ3)
    obtain ⟨μ5, e5, f5, r5⟩ := c_X7_add (d + 4) r4 g (by decide)
    obtain ⟨μ6, e6, f6, r6⟩ := tell (d + 1) μ5 ([] ++ [g]) (fun q hq => (f5 q (by omega) (by omega)).trans (f4 q (by omega) (by omega))) r5 (by show 1 + m ≤ 20; omega)
    refine ⟨μ6, fun q hq => (f6 q (by omega) (by omega)).trans ((f5 q (by omega) (by omega)).trans ((f4 q (by omega) (by omega)).trans (f30 q hq))), Or.inr ⟨g, m, row, ?_, bp, r6⟩⟩
    rw [e_X11_tellJoy, e1, bV_r, e2, bV_r, e3, bI_r, if_neg (by omega), e4, bV_r, e5, bV_r, e6, bV_r]
def PL0 (μ : jM) (k : Kt) (W : Nat → Nat → Int) (C : Nat → Int) (n j : Nat) : Prop := PL μ k n W 2047 999 C j
theorem c_X11_best (d : Nat) {μ : jM} {k : Kt} {w : Lw} {b : List Nat} {r : List Int} {ru : List Nat} (hk : KI μ k) (hw : LI μ 16 w) (hb : BI μ 20 b) (hbk : Bok (kn k) b) (hr : RI μ r) (ht : TaC μ ru) (N P : Nat) (hN : N ≤ 10) (hP : P ≤ 999) : ∃ μ', fC μ' μ ∧ ((CL (d + 7) 183 [jR 0, jI N, jI P] μ = rI (-2) μ' ∧ (∀ s l, GJ k w (fun _ _ => true) (bset b) (bla b) N P s l = false) ∧ RI μ' r) ∨ ∃ g m row, CL (d + 7) 183 [jR 0, jI N, jI P] μ = rI 1 μ' ∧ BestP k w (fun _ _ => true) (bset b) (bla b) (GJ k w (fun _ _ => true) (bset b) (bla b) N P) (fun s => wo (fun _ x => jall k ru x) (nd s (bset b)) 1) g m row ∧ RI μ' (g :: ri row)) := by
  have hko := hk.1
  have h10 := hko.1
  let W : Nat → Nat → Int := fun _ x => jall k ru x
  obtain ⟨μ1, e1, f1, p1⟩ := c_X5_begin (d + 4) μ k W
  obtain ⟨μ2, e2, f2, p2⟩ := c_X5_addLine (d + 5) p1 (by decide)
  have c2 : fC μ2 μ := fC_29 (fun q hq => (f2 q (by omega)).trans (f1 q (by omega) (by omega)))
  obtain ⟨μ3, e3, c3, q3, p3⟩ := lp_i (fun (j : Nat) (m : jM) => EV (d + 6) T_X11_best 1 [some (jR 0), some (jI N), some (jI P), some (jI j)] [] m) (fun j m => fC m μ ∧ (m 50 = μ 50 ∧ m 51 = μ 51) ∧ PL m k 0 W 2047 999 (fun _ => 0) j) (kn k) (fun j m hj hI => by
    obtain ⟨c, q, p⟩ := hI
    have hkm := fC_KI c hk
    have htm : TaC m ru := ⟨ht.1, c.2.trans ht.2.1, fun i hi => by rw [c.1 13 (by omega)]; exact ht.2.2 i hi⟩
    obtain ⟨m1, e1, f1⟩ := c_X9_ofAll (d + 1) hkm htm j hj
    have p1 : PL m1 k 0 W 2047 999 (fun _ => 0) j := PL_cg p (fun q a b => f1.1 q (by omega) (by omega))
    obtain ⟨m2, e2, f2, p2⟩ := c_X5_weigh (d + 5) p1 (by omega)
    refine ⟨m2, ?_, fC_t c (fC_t (fT_C f1) (fC_29 (fun q hq => f2 q (by omega)))), ⟨(f2 50 (by omega)).trans ((f1.1 50 (by decide) (by decide)).trans q.1), (f2 51 (by omega)).trans ((f1.1 51 (by decide) (by decide)).trans q.2)⟩, p2⟩
    show EV (d + 6) T_X11_best 1 _ [] m = _
    have e2 : CL (d + 6) 78 [jR 36, jI j, jI (jall k ru j)] m1 = rV m2 := e2
    rw [e_X11_best_1, e_X1_dishes, hkm.2.1, bI_r, if_pos (by omega), e1, bI_r, e2, bV_r, w_s j (by omega)]) μ2 ⟨c2, ⟨(f2 50 (by decide)).trans (f1 50 (by decide) (by decide)), (f2 51 (by decide)).trans (f1 51 (by decide) (by decide))⟩, p2⟩
  have c3 : fC μ3 μ := c3
  have q3 : μ3 50 = μ 50 ∧ μ3 51 = μ 51 := q3
  have p3 : PL μ3 k 0 W 2047 999 (fun _ => 0) (kn k) := p3
  have e3 : EV (d + 6) T_X11_best 1 [some (jR 0), some (jI N), some (jI P), some (jI 0)] [] μ2 = EV (d + 6) T_X11_best 1 [some (jR 0), some (jI N), some (jI P), some (jI (kn k))] [] μ3 := e3
  have k3 := fC_KI c3 hk
  obtain ⟨μ4, f4, r4⟩ := c_X11_tellJoy d k3 (fC_LI c3 hw) (fC_BI c3 hb) hbk (RI_cg hr q3.1 q3.2) (PL_end p3) (fun i x _ _ => by have := jall_b hko ru x; exact ⟨by show -6000 ≤ jall k ru x; omega, by show jall k ru x ≤ 6000; omega⟩) N P hP
  have head : ∀ y : Int, CL (d + 6) 187 [jR 0, jI N, jI P] μ3 = rI y μ4 → CL (d + 7) 183 [jR 0, jI N, jI P] μ = rI y μ4 := fun y hy => by
    rw [e_X11_best, if_neg (by omega), if_neg (by omega), if_neg (by omega), if_neg (by omega), e1, bV_r, e2, bV_r, e3, e_X11_best_1, e_X1_dishes, k3.2.1, bI_r, if_neg (by omega), hy, bI_r]
  refine ⟨μ4, fC_t c3 (fC_29 f4), ?_⟩
  rcases r4 with ⟨y1, y2, y3⟩ | ⟨g, m, row, y1, y2, y3⟩
  · exact Or.inl ⟨head _ y1, y2, y3⟩
  · exact Or.inr ⟨g, m, row, head _ y1, y2, y3⟩
theorem c_X11_fair (d : Nat) {μ : jM} {k : Kt} {w : Lw} {b : List Nat} {r : List Int} {ru : List Nat} (hk : KI μ k) (hw : LI μ 16 w) (hb : BI μ 20 b) (hbk : Bok (kn k) b) (hr : RI μ r) (ht : TaC μ ru) (N P : Nat) (hN : N ≤ 10) (hP : P ≤ 999) (hg0 : kg k ≠ 0) : ∃ μ', fC μ' μ ∧ ((CL (d + 7) 184 [jR 0, jI N, jI P] μ = rI (-2) μ' ∧ (∀ s l, GJ k w (fun _ _ => true) (bset b) (bla b) N P s l = false) ∧ RI μ' r) ∨ ∃ g m row, CL (d + 7) 184 [jR 0, jI N, jI P] μ = rI 1 μ' ∧ BestP k w (fun _ _ => true) (bset b) (bla b) (GJ k w (fun _ _ => true) (bset b) (bla b) N P) (fun s => wo (fun g x => joyv k ru g x) (nd s (bset b)) (kg k)) g m row ∧ RI μ' (g :: ri row)) := by
  have hko := hk.1
  have h10 := hko.1
  have h6 := hko.2.1
  let W : Nat → Nat → Int := fun g x => joyv k ru g x
  obtain ⟨μ1, e1, f1, p1⟩ := c_X5_begin (d + 4) μ k W
  have c1 : fC μ1 μ := fC_29 (fun q hq => f1 q (by omega) (by omega))
  obtain ⟨μ3, e3, c3, q3, p3⟩ := lp_i (fun (g : Nat) (m : jM) => EV (d + 6) T_X11_fair 1 [some (jR 0), some (jI N), some (jI P), some (jI g), none] [] m) (fun g m => fC m μ ∧ (m 50 = μ 50 ∧ m 51 = μ 51) ∧ PI m k g W 2047 999 (fun _ => 0)) (kg k) (fun g m hg hI => by
    obtain ⟨c, q, p⟩ := hI
    have hkm := fC_KI c hk
    obtain ⟨m1, e1, f1, p1⟩ := c_X5_addLine (d + 5) p (by omega)
    have c1 : fC m1 μ := fC_t c (fC_29 (fun q hq => f1 q (by omega)))
    obtain ⟨m3, e3, c3, q3, p3⟩ := lp_i (fun (j : Nat) (m : jM) => EV (d + 6) T_X11_fair 2 [some (jR 0), some (jI N), some (jI P), some (jI g), some (jI j)] [] m) (fun j m => fC m μ ∧ (m 50 = μ 50 ∧ m 51 = μ 51) ∧ PL m k g W 2047 999 (fun _ => 0) j) (kn k) (fun j m hj hI => by
      obtain ⟨c, q, p⟩ := hI
      have hkm := fC_KI c hk
      have htm : TaC m ru := ⟨ht.1, c.2.trans ht.2.1, fun i hi => by rw [c.1 13 (by omega)]; exact ht.2.2 i hi⟩
      obtain ⟨m1, e1, f1⟩ := c_X9_of (d + 2) hkm htm g j hg hj
      have p1 : PL m1 k g W 2047 999 (fun _ => 0) j := PL_cg p (fun q a b => f1.1 q (by omega) (by omega))
      obtain ⟨m2, e2, f2, p2⟩ := c_X5_weigh (d + 5) p1 (by omega)
      refine ⟨m2, ?_, fC_t c (fC_t (fT_C f1) (fC_29 (fun q hq => f2 q (by omega)))), ⟨(f2 50 (by omega)).trans ((f1.1 50 (by decide) (by decide)).trans q.1), (f2 51 (by omega)).trans ((f1.1 51 (by decide) (by decide)).trans q.2)⟩, p2⟩
      show EV (d + 6) T_X11_fair 2 _ [] m = _
      have e2 : CL (d + 6) 78 [jR 36, jI j, jI (joyv k ru g j)] m1 = rV m2 := e2
      rw [e_X11_fair_2, e_X1_dishes, hkm.2.1, bI_r, if_pos (by omega), e1, bI_r, e2, bV_r, w_s j (by omega)]) m1 ⟨c1, ⟨(f1 50 (by decide)).trans q.1, (f1 51 (by decide)).trans q.2⟩, p1⟩
    have c3 : fC m3 μ := c3
    have p3 : PL m3 k g W 2047 999 (fun _ => 0) (kn k) := p3
    have e3 : EV (d + 6) T_X11_fair 2 [some (jR 0), some (jI N), some (jI P), some (jI g), some (jI 0)] [] m1 = EV (d + 6) T_X11_fair 2 [some (jR 0), some (jI N), some (jI P), some (jI g), some (jI (kn k))] [] m3 := e3
    refine ⟨m3, ?_, c3, q3, PL_end p3⟩
    show EV (d + 6) T_X11_fair 1 _ [] m = _
    rw [e_X11_fair_1, e_X1_guests, hkm.2.2.1, bI_r, if_pos (by omega), e1, bV_r, e3, e_X11_fair_2, e_X1_dishes, (fC_KI c3 hk).2.1, bI_r, if_neg (by omega), w_s g (by omega)]) μ1 ⟨c1, ⟨f1 50 (by decide) (by decide), f1 51 (by decide) (by decide)⟩, p1⟩
  have c3 : fC μ3 μ := c3
  have q3 : μ3 50 = μ 50 ∧ μ3 51 = μ 51 := q3
  have p3 : PI μ3 k (kg k) W 2047 999 (fun _ => 0) := p3
  have e3 : EV (d + 6) T_X11_fair 1 [some (jR 0), some (jI N), some (jI P), some (jI 0), none] [] μ1 = EV (d + 6) T_X11_fair 1 [some (jR 0), some (jI N), some (jI P), some (jI (kg k)), none] [] μ3 := e3
  have k3 := fC_KI c3 hk
  obtain ⟨μ4, f4, r4⟩ := c_X11_tellJoy d k3 (fC_LI c3 hw) (fC_BI c3 hb) hbk (RI_cg hr q3.1 q3.2) p3 (fun i x _ _ => by have := joyv_b k ru i x; exact ⟨by show -6000 ≤ joyv k ru i x; omega, by show joyv k ru i x ≤ 6000; omega⟩) N P hP
  have head : ∀ y : Int, CL (d + 6) 187 [jR 0, jI N, jI P] μ3 = rI y μ4 → CL (d + 7) 184 [jR 0, jI N, jI P] μ = rI y μ4 := fun y hy => by
    rw [e_X11_fair, if_neg (by omega), if_neg (by omega), if_neg (by omega), if_neg (by omega), e_X1_guests, hk.2.2.1, bI_r, if_neg (by omega), e1, bV_r, e3, e_X11_fair_1, e_X1_guests, k3.2.2.1, bI_r, if_neg (by omega), hy, bI_r]
  refine ⟨μ4, fC_t c3 (fC_29 f4), ?_⟩
  rcases r4 with ⟨y1, y2, y3⟩ | ⟨g, m, row, y1, y2, y3⟩
  · exact Or.inl ⟨head _ y1, y2, y3⟩
  · exact Or.inr ⟨g, m, row, head _ y1, y2, y3⟩
theorem c_X11_tellCost (d : Nat) {μ : jM} {k : Kt} {w : Lw} {b : List Nat} {r : List Int} (hk : KI μ k) (hw : LI μ 16 w) (hb : BI μ 20 b) (hbk : Bok (kn k) b) (hr : RI μ r) {a : Int} {Q : Nat → Bool} (ha : alw a Q) (N : Nat) (f : Int) (hf : f = 1 ∨ f = -1) : ∃ μ', (∀ q, q < 29 ∨ 51 < q → μ' q = μ q) ∧ ((CL (d + 6) 188 [jR 0, jI N, jI a, jI f] μ = rI (-2) μ' ∧ (∀ s l, GJ k w (fun _ => Q) (bset b) (bla b) N 999 s l = false) ∧ RI μ' r) ∨ ∃ g m row, CL (d + 6) 188 [jR 0, jI N, jI a, jI f] μ = rI (w32 (f * g)) μ' ∧ BestP k w (fun _ => Q) (bset b) (bla b) (GJ k w (fun _ => Q) (bset b) (bla b) N 999) (fun s => wo (fun _ x => f * (kco k x : Int)) (nd s (bset b)) 1) g m row ∧ RI μ' (ri row)) := by
  have hko := hk.1
  have h10 := hko.1
  let W : Nat → Nat → Int := fun _ x => f * (kco k x : Int)
  obtain ⟨μ1, e1, f1, s1⟩ := c_X11_goOn (P := Q) d hk hw hb hbk ha
  obtain ⟨μ2, e2, f2, p2⟩ := c_X5_begin (d + 3) μ1 k W
  obtain ⟨μ3, e3, f3, p3⟩ := c_X5_addLine (d + 4) p2 (by decide)
  have g3 : ∀ q, q < 29 ∨ 35 < q → q ≠ 36 → q ≠ 45 → μ3 q = μ q := fun q x y z => (f3 q y).trans ((f2 q y z).trans (f1 q x))
  obtain ⟨μ4, e4, g4, s4, p4⟩ := lp_i (fun (j : Nat) (m : jM) => EV (d + 5) T_X11_tellCost 1 [some (jR 0), some (jI N), none, some (jI f), some (jI j)] [] m) (fun j m => (∀ q, q < 29 ∨ 45 < q → m q = μ q) ∧ SP m k w (fun _ => Q) (bset b) (bla b) ∧ PL m k 0 W 2047 999 (fun _ => 0) j) (kn k) (fun j m hj hI => by
    have g : ∀ q, q < 29 ∨ 45 < q → m q = μ q := hI.1
    have s : SP m k w (fun _ => Q) (bset b) (bla b) := hI.2.1
    have p : PL m k 0 W 2047 999 (fun _ => 0) j := hI.2.2
    have hkm : KI m k := KI_cg hk (fun q _ _ => g q (by omega))
    have hc := (hko.2.2.1 j hj).2.2.1
    obtain ⟨m2, e2, f2, p2⟩ := c_X5_weigh (d + 4) p (by omega)
    refine ⟨m2, ?_, fun q hq => (f2 q (by omega)).trans (g q hq), SP_cg s (fun q _ _ => f2 q (by omega)), p2⟩
    show EV (d + 5) T_X11_tellCost 1 _ [] m = _
    have e2 : CL (d + 5) 78 [jR 36, jI j, jI (f * (kco k j : Int))] m = rV m2 := e2
    rw [e_X11_tellCost_1, e_X1_dishes, hkm.2.1, bI_r, if_pos (by omega), c_X1_costOf _ hkm j hj, bI_r, w_id (x := f * (kco k j : Int)) (by rcases hf with z | z <;> rw [z] <;> omega) (by rcases hf with z | z <;> rw [z] <;> omega), e2, bV_r, w_s j (by omega)]) μ3 ⟨fun q hq => g3 q (by omega) (by omega) (by omega), SP_cg s1 (fun q _ _ => (f3 q (by omega)).trans (f2 q (by omega) (by omega))), p3⟩
  have g4 : ∀ q, q < 29 ∨ 45 < q → μ4 q = μ q := g4
  have s4 : SP μ4 k w (fun _ => Q) (bset b) (bla b) := s4
  have p4 : PL μ4 k 0 W 2047 999 (fun _ => 0) (kn k) := p4
  have e4 : EV (d + 5) T_X11_tellCost 1 [some (jR 0), some (jI N), none, some (jI f), some (jI 0)] [] μ3 = EV (d + 5) T_X11_tellCost 1 [some (jR 0), some (jI N), none, some (jI f), some (jI (kn k))] [] μ4 := e4
  have k4 : KI μ4 k := KI_cg hk (fun q _ _ => g4 q (by omega))
  obtain ⟨μ5, g, e5, f5, r5⟩ := c_seekTell d s4 (PL_end p4) (fun i x _ hx => by
    have hc := (hko.2.2.1 x hx).2.2.1
    show -6000 ≤ f * (kco k x : Int) ∧ f * (kco k x : Int) ≤ 6000
    rcases hf with z | z <;> rw [z] <;> omega) (fun _ _ => by decide) N (fun t ht => by
    have := kcs_b2 hko t
    constructor
    · intro _
      omega
    · exact fun _ => Or.inl rfl)
  have f50 : ∀ q, q < 29 ∨ 51 < q → μ5 q = μ q := fun q hq => (f5 q (by omega) (by omega)).trans (g4 q (by omega))
  have r50 : RI μ5 r := RI_cg hr ((f5 50 (by decide) (by decide)).trans (g4 50 (by omega))) ((f5 51 (by decide) (by decide)).trans (g4 51 (by omega)))
  have head : CL (d + 6) 188 [jR 0, jI N, jI a, jI f] μ = if g = -1000000 then rI (-2) μ5 else bV (CL (d + 5) 104 [jR 50] μ5) fun μ3 => bV (CL (d + 5) 89 [jR 36, jR 29, jR 50] μ3) fun μ4 => rI (w32 (f * g)) μ4 := by
    rw [e_X11_tellCost, e1, bV_r, e2, bV_r, e3, bV_r, e4, e_X11_tellCost_1, e_X1_dishes, k4.2.1, bI_r, if_neg (by omega), e5, bI_r]
  rw [head]
  rcases r5 with ⟨z1, z2⟩ | ⟨hg, m, row, hm, bp, tell⟩
  · exact ⟨μ5, f50, Or.inl ⟨if_pos z1, z2, r50⟩⟩
  · obtain ⟨μ6, e6, f6, r6⟩ := c_X7_clear (d + 4) (μ := μ5)
    obtain ⟨μ7, e7, f7, r7⟩ := tell (d + 1) μ6 [] (fun q hq => f6 q (by omega) (by omega)) r6 (by show 0 + m ≤ 20; omega)
    refine ⟨μ7, fun q hq => (f7 q (by omega) (by omega)).trans ((f6 q (by omega) (by omega)).trans (f50 q hq)), Or.inr ⟨g, m, row, ?_, bp, r7⟩⟩
    rw [if_neg (by omega), e6, bV_r, e7, bV_r]
