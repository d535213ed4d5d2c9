/-! ## reading: the reference -/
theorem jup_e {μ : jM} {p q : Nat} {i j v : Int} (h : q ≠ p ∨ j ≠ i) : jup μ p i v q j = μ q j := by
  rcases h with h | h
  · exact jup_n h
  · exact jup_m h
def RB (ν : jM) (P : Nat) (t : List Nat) (B : Int) : Prop := (P = 80 ∨ P = 82) ∧ ν 69 21 = (P : Int) ∧ ν 69 22 = (t.length : Int) ∧ ν 69 23 = B ∧ (t.length : Int) ≤ LN P ∧ (∀ c ∈ t, c < 256) ∧ ∀ i : Nat, i < t.length → ν P (i : Int) = sgb (t.getD i 0)
theorem RB_cg {ν ν' : jM} {P : Nat} {t : List Nat} {B : Int} (h : RB ν P t B) (e : ∀ q, q = 80 ∨ q = 82 → ν' q = ν q) (e1 : ν' 69 21 = ν 69 21) (e2 : ν' 69 22 = ν 69 22) (e3 : ν' 69 23 = ν 69 23) : RB ν' P t B := by
  obtain ⟨a1, a2, a3, a4, a5, a6, a7⟩ := h
  exact ⟨a1, by rw [e1]; exact a2, by rw [e2]; exact a3, by rw [e3]; exact a4, a5, a6, fun i hi => by rw [e P a1]; exact a7 i hi⟩
theorem RB_69 {ν : jM} {P : Nat} {t : List Nat} {B : Int} (h : RB ν P t B) {j : Int} (hj : j ≠ 21 ∧ j ≠ 22 ∧ j ≠ 23) (v : Int) : RB (jup ν 69 j v) P t B := RB_cg h (fun q hq => jup_ne (by omega)) (jup_m (by omega)) (jup_m (by omega)) (jup_m (by omega))
def hz (t : List Nat) (B : Int) (p : Nat) : Int := if p < t.length ∧ (p : Int) < B then sgb (t.getD p 0) else -1
theorem hz_c {t : List Nat} (h : ∀ c ∈ t, c < 256) (B : Int) (p : Nat) : (hz t B p = tcb t B p ∧ tcb t B p < 128) ∨ (128 ≤ tcb t B p ∧ hz t B p < 0) := by
  unfold hz tcb
  by_cases hi : p < t.length ∧ (p : Int) < B
  · rw [if_pos hi, if_pos hi]
    have := t256 h hi.1
    unfold sgb
    by_cases h1 : t.getD p 0 < 128
    · rw [if_pos h1]
      exact Or.inl ⟨rfl, by omega⟩
    · rw [if_neg h1]
      exact Or.inr ⟨by omega, by omega⟩
  · rw [if_neg hi, if_neg hi]
    exact Or.inl ⟨rfl, by decide⟩
theorem hz_e {t : List Nat} (h : ∀ c ∈ t, c < 256) (B : Int) (p : Nat) {x : Int} (hx : 0 ≤ x ∧ x < 128) : hz t B p = x ↔ tcb t B p = x := by
  rcases hz_c h B p with z | z <;> omega
theorem hz_d {t : List Nat} (h : ∀ c ∈ t, c < 256) (B : Int) (p : Nat) : (48 ≤ hz t B p ∧ hz t B p ≤ 57) ↔ isd (tcb t B p) = true := by
  rw [isd_i]
  rcases hz_c h B p with z | z <;> omega
theorem hz_l {t : List Nat} (h : ∀ c ∈ t, c < 256) (B : Int) (p : Nat) : (97 ≤ hz t B p ∧ hz t B p ≤ 104) ↔ isl (tcb t B p) = true := by
  rw [isl_i]
  rcases hz_c h B p with z | z <;> omega
theorem hz_s {t : List Nat} (h : ∀ c ∈ t, c < 256) (B : Int) (p : Nat) (h2 : 0 ≤ hz t B p) : hz t B p = tcb t B p := by
  rcases hz_c h B p with z | z <;> omega
theorem c_X12_here (d : Nat) {ν : jM} {P : Nat} {t : List Nat} {B : Int} (h : RB ν P t B) (p : Nat) (hp : ν 69 24 = (p : Int)) : CL (d + 1) 215 [jR 69] ν = rI (hz t B p) ν := by
  obtain ⟨a1, a2, a3, a4, a5, a6, a7⟩ := h
  have hk : KD P = 21 ∧ P < 100 := by
    rcases a1 with rfl | rfl <;> decide
  rw [e_X12_here, hp, a3, a4]
  unfold hz
  by_cases h1 : p < t.length
  · rw [if_pos (by omega)]
    by_cases h2 : (p : Int) < B
    · rw [if_pos h2, a2, gd_t (by omega), Int.toNat_natCast, cd_t hk.1, gd_t (by omega), if_pos ⟨h1, h2⟩, a7 p h1]
    · rw [if_neg h2, if_neg (fun z => h2 z.2)]
  · rw [if_neg (by omega), if_neg (fun z => h1 z.1)]
theorem c_X12_fine (d : Nat) {ν : jM} (h : ν 69 25 = -1) : CL (d + 1) 216 [jR 69] ν = rI 1 ν := by
  rw [e_X12_fine, if_pos h, gd_t (by omega)]
theorem c_X12_fineN (d : Nat) {ν : jM} (h : ν 69 25 ≠ -1) : CL (d + 1) 216 [jR 69] ν = rI 0 ν := by
  rw [e_X12_fine, if_neg h, gd_t (by omega)]
theorem c_X12_fault (d : Nat) {ν : jM} (h : ν 69 25 = -1) (v : Int) : CL (d + 2) 217 [jR 69, jI v] ν = rV (jup ν 69 25 v) := by
  rw [e_X12_fault, c_X12_fine _ h, bI_r, if_neg (by decide)]
theorem c_X12_faultN (d : Nat) {ν : jM} (h : ν 69 25 ≠ -1) (v : Int) : CL (d + 2) 217 [jR 69, jI v] ν = rV ν := by
  rw [e_X12_fault, c_X12_fineN _ h, bI_r, if_pos rfl]
theorem c_X12_passesN (d : Nat) {ν : jM} (h : ν 69 25 ≠ -1) (x : Int) : CL (d + 2) 218 [jR 69, jI x] ν = rI 0 ν := by
  rw [e_X12_passes, c_X12_fineN _ h, bI_r, if_pos rfl, gd_t (by omega)]
theorem c_X12_passes (d : Nat) {ν : jM} {P : Nat} {t : List Nat} {B : Int} (h : RB ν P t B) (p : Nat) (hp : ν 69 24 = (p : Int)) (h25 : ν 69 25 = -1) (x : Int) (hx : 0 ≤ x ∧ x < 128) : CL (d + 2) 218 [jR 69, jI x] ν = if tcb t B p = x then rI 1 (jup ν 69 24 ((p + 1 : Nat) : Int)) else rI 0 ν := by
  rw [e_X12_passes, c_X12_fine _ h25, bI_r, if_neg (by decide), c_X12_here _ h p hp, bI_r, hp]
  by_cases hc : tcb t B p = x
  · have hl := tcb_l (t := t) (B := B) (i := p) (by omega)
    have hlen : t.length ≤ 80 := by
      have := h.2.2.2.2.1
      rcases h.1 with z | z <;> rw [z] at this
      · have e : LN 80 = 80 := by decide
        omega
      · have e : LN 82 = 40 := by decide
        omega
    rw [if_pos ((hz_e h.2.2.2.2.2.1 B p hx).mpr hc), if_pos hc, gd_t (by omega), w_s p (by omega)]
  · rw [if_neg (fun z => hc ((hz_e h.2.2.2.2.2.1 B p hx).mp z)), if_neg hc, gd_t (by omega)]
theorem RB_len {ν : jM} {P : Nat} {t : List Nat} {B : Int} (h : RB ν P t B) : t.length ≤ 80 := by
  have := h.2.2.2.2.1
  rcases h.1 with z | z <;> rw [z] at this
  · have e : LN 80 = 80 := by decide
    omega
  · have e : LN 82 = 40 := by decide
    omega
/-! letters -/
def ltO (mb : Int) (c : Nat → Int) (s : Nat × Nat) (ν : jM) : Option jO := if isl (c s.2) = true ∨ mb = 1 ∧ s.1 = 0 then rI 0 (jup (jup ν 69 24 (s.2 : Nat)) 69 25 (s.2 : Nat)) else rI (s.1 : Nat) (jup ν 69 24 (s.2 : Nat))
theorem c_X12_letters_1 (d : Nat) {P : Nat} {t : List Nat} {B : Int} (mb : Int) (hmb : mb = 0 ∨ mb = 1) : ∀ (r b p : Nat) (la : Int) (ν : jM), RB ν P t B → ν 69 24 = (p : Int) → ν 69 25 = -1 → 7 - (r : Int) ≤ la → la ≤ 7 → (la = -1 ∧ b = 0 ∨ ∃ y : Nat, la = y ∧ 2 ^ y ≤ b ∧ b < 2 ^ (y + 1)) → EV (d + 2) T_X12_letters 1 [some (jR 69), some (jI mb), some (jI b), some (jI la), none] [] ν = ltO mb (tcb t B) (rsF (tcb t B) r b p) ν := by
  intro r
  induction r with
  | zero =>
    intro b p la ν h hp h25 hl1 hl2 hla
    rw [e_X12_letters_1, c_X12_fine _ h25, bI_r, if_neg (by decide), c_X12_here _ h p hp, bI_r, c_X12_in, bI_r]
    show _ = ltO mb (tcb t B) (b, p) ν
    unfold ltO
    have hid : jup ν 69 24 (p : Int) = ν := jup_id hp
    by_cases hl : isl (tcb t B p) = true
    · have h97 := (hz_l h.2.2.2.2.2.1 B p).mpr hl
      rw [if_pos h97, if_neg (by decide), c_X12_here _ h p hp, bI_r, w_id (x := hz t B p - 97) (by omega) (by omega), if_neg (by omega), hp, c_X12_fault _ h25, bV_r, if_pos (Or.inl hl), hid]
    · rw [if_neg (fun z => hl ((hz_l h.2.2.2.2.2.1 B p).mp z)), if_pos rfl]
      have hb0 : b ≠ 0 := by
        rcases hla with ⟨z, -⟩ | ⟨y, -, z, -⟩
        · omega
        · have := Nat.two_pow_pos y
          omega
      have e3 : rI (b : Nat) ν = if isl (tcb t B p) = true ∨ mb = 1 ∧ b = 0 then rI 0 (jup (jup ν 69 24 (p : Int)) 69 25 (p : Int)) else rI (b : Nat) (jup ν 69 24 (p : Int)) := by
        rw [if_neg (by rintro (z | z); exact hl z; exact hb0 z.2), hid]
      by_cases hm : mb = 0
      · rw [if_pos hm]
        exact e3
      · rw [if_neg hm, if_neg (by omega)]
        exact e3
  | succ r ih =>
    intro b p la ν h hp h25 hl1 hl2 hla
    have hid : jup ν 69 24 (p : Int) = ν := jup_id hp
    rw [e_X12_letters_1, c_X12_fine _ h25, bI_r, if_neg (by decide), c_X12_here _ h p hp, bI_r, c_X12_in, bI_r]
    by_cases hl : isl (tcb t B p) = true
    · have h97 := (hz_l h.2.2.2.2.2.1 B p).mpr hl
      have hs := hz_s h.2.2.2.2.2.1 B p (by omega)
      have hpl := tcb_l (t := t) (B := B) (i := p) (by omega)
      have hlen := RB_len h
      obtain ⟨x, hx⟩ : ∃ x : Nat, hz t B p - 97 = (x : Int) := Int.eq_ofNat_of_zero_le (by omega)
      have hxn : (tcb t B p - 97).toNat = x := by omega
      have hx8 : x < 8 := by omega
      have hpx := p2_le (show x ≤ 7 by omega)
      have hb8 : b < 2 ^ 8 := by
        rcases hla with ⟨-, z⟩ | ⟨y, hy, -, z⟩
        · omega
        · have := p2_le (show y + 1 ≤ 8 by omega)
          omega
      rw [if_pos h97, if_neg (by decide), c_X12_here _ h p hp, bI_r, w_id (x := hz t B p - 97) (by omega) (by omega), hx]
      by_cases hr : la < (x : Int)
      · have hb0 : b / 2 ^ x = 0 := by
          apply Nat.div_eq_of_lt
          rcases hla with ⟨-, z⟩ | ⟨y, hy, -, z⟩
          · rw [z]
            exact Nat.two_pow_pos x
          · have := p2_le (show y + 1 ≤ x by omega)
            omega
        have hb2 : b < 2 ^ x := by
          rcases Nat.lt_or_ge b (2 ^ x) with z | z
          · exact z
          · have := Nat.div_pos z (Nat.two_pow_pos x)
            omega
        rw [if_pos hr, shl_1 x (by omega), or_nn _ _ (by omega) (by omega), hp, w_s p (by omega), rsF_y hl (by rw [hxn]; exact hb0), hxn]
        have key := ih (b ||| 2 ^ x) (p + 1) (x : Int) (jup ν 69 24 ((p + 1 : Nat) : Int)) (RB_69 h (by decide) _) (jup_r _ _ _ _) ((jup_m (by decide)).trans h25) (by omega) (by omega) (Or.inr ⟨x, rfl, Nat.right_le_or, Nat.or_lt_two_pow (Nat.lt_of_lt_of_le hb2 (p2_le (by omega))) (Nat.pow_lt_pow_right (by decide) (by omega))⟩)
        rw [key]
        unfold ltO
        rw [jup_jup]
      · have hb0 : ¬ b / 2 ^ x = 0 := by
          intro z
          rcases hla with ⟨y, -⟩ | ⟨y, hy, hb1, -⟩
          · omega
          · have h1 := p2_le (show x ≤ y by omega)
            have := Nat.div_pos (show 2 ^ x ≤ b by omega) (Nat.two_pow_pos x)
            omega
        rw [if_neg hr, hp, c_X12_fault _ h25, bV_r, rsF_n (fun z => hb0 (by have := z.2; rwa [hxn] at this))]
        unfold ltO
        rw [if_pos (Or.inl hl)]
        show rI 0 (jup ν 69 25 (p : Int)) = rI 0 (jup (jup ν 69 24 (p : Int)) 69 25 (p : Int))
        rw [hid]
    · rw [if_neg (fun z => hl ((hz_l h.2.2.2.2.2.1 B p).mp z)), if_pos rfl, rsF_n (fun z => hl z.1)]
      unfold ltO
      show _ = if isl (tcb t B p) = true ∨ mb = 1 ∧ b = 0 then rI 0 (jup (jup ν 69 24 (p : Int)) 69 25 (p : Int)) else rI (b : Nat) (jup ν 69 24 (p : Int))
      rw [hid]
      by_cases hm : mb = 0
      · rw [if_pos hm, if_neg (by rintro (z | z); exact hl z; omega)]
      · rw [if_neg hm]
        by_cases hb : b = 0
        · rw [if_pos (show (b : Int) = 0 by omega), hp, c_X12_fault _ h25, bV_r, if_pos (show isl (tcb t B p) = true ∨ mb = 1 ∧ b = 0 from Or.inr ⟨hmb.resolve_left hm, hb⟩), hb]
          rfl
        · rw [if_neg (show ¬ (b : Int) = 0 by omega), if_neg (by rintro (z | z); exact hl z; exact hb z.2)]
theorem c_X12_letters (d : Nat) {ν : jM} {P : Nat} {t : List Nat} {B : Int} (h : RB ν P t B) (p : Nat) (hp : ν 69 24 = (p : Int)) (h25 : ν 69 25 = -1) (mb : Int) (hmb : mb = 0 ∨ mb = 1) : CL (d + 3) 220 [jR 69, jI mb] ν = ltO mb (tcb t B) (rsF (tcb t B) 8 0 p) ν := by
  rw [e_X12_letters]
  exact c_X12_letters_1 d mb hmb 8 0 p (-1) ν h hp h25 (by decide) (by decide) (Or.inl ⟨rfl, rfl⟩)
theorem c_X12_lettersN (d : Nat) {ν : jM} (h25 : ν 69 25 ≠ -1) (mb : Int) : CL (d + 3) 220 [jR 69, jI mb] ν = rI 0 ν := by
  rw [e_X12_letters, e_X12_letters_1, c_X12_fineN _ h25, bI_r, if_pos rfl]
  by_cases hm : mb = 0
  · rw [if_pos hm]
  · rw [if_neg hm, if_pos rfl, c_X12_faultN _ h25, bV_r]
/-! numbers -/
def nmF (c : Nat → Int) : Nat → Int → Nat → Int × Nat
  | 0, v, p => (v, p)
  | r + 1, v, p => if isd (c p) = true then nmF c r (10 * v + (c p - 48)) (p + 1) else (v, p)
theorem nmF_y {c : Nat → Int} {r : Nat} {v : Int} {p : Nat} (h : isd (c p) = true) : nmF c (r + 1) v p = nmF c r (10 * v + (c p - 48)) (p + 1) := if_pos h
theorem nmF_n {c : Nat → Int} {r : Nat} {v : Int} {p : Nat} (h : isd (c p) = false) : nmF c (r + 1) v p = (v, p) := if_neg (by rw [h]; decide)
def nb (r : Nat) : Int := if r = 0 then 999 else if r = 1 then 99 else if r = 2 then 9 else 0
theorem nmF_le (c : Nat → Int) : ∀ (r : Nat) (v : Int) (p : Nat), p ≤ (nmF c r v p).2
  | 0, _, p => Nat.le_refl p
  | r + 1, v, p => by
    cases h : isd (c p) with
    | true =>
      rw [nmF_y h]
      have := nmF_le c r (10 * v + (c p - 48)) (p + 1)
      omega
    | false =>
      rw [nmF_n h]
      exact Nat.le_refl p
theorem c_X12_number_1 (d : Nat) {P : Nat} {t : List Nat} {B : Int} (n f : Nat) (hn : n ≤ 3) (hf : f ≤ 80) : ∀ (r : Nat) (v : Int) (p : Nat) (ν : jM), RB ν P t B → ν 69 24 = (p : Int) → ν 69 25 = -1 → p + r = f + n → 0 ≤ v → v ≤ nb r → f ≤ p → EV (d + 2) T_X12_number 1 [some (jR 69), some (jI n), some (jI f), some (jI v)] [] ν = if (nmF (tcb t B) r v p).2 = f then rI (nmF (tcb t B) r v p).1 (jup ν 69 25 f) else rI (nmF (tcb t B) r v p).1 (jup ν 69 24 ((nmF (tcb t B) r v p).2 : Nat)) := by
  intro r
  induction r with
  | zero =>
    intro v p ν h hp h25 hr h0 hv hfp
    rw [e_X12_number_1, hp, w_id (by omega) (by omega), if_neg (by omega)]
    show (if (p : Int) = (f : Int) then _ else _) = if p = f then rI v (jup ν 69 25 f) else rI v (jup ν 69 24 (p : Int))
    by_cases hpf : p = f
    · rw [if_pos (by omega), if_pos hpf, c_X12_fault _ h25, bV_r, hpf]
    · rw [if_neg (by omega), if_neg hpf, jup_id hp]
  | succ r ih =>
    intro v p ν h hp h25 hr h0 hv hfp
    rw [e_X12_number_1, hp, w_id (by omega) (by omega), if_pos (by omega), c_X12_here _ h p hp, bI_r, c_X12_in, bI_r]
    cases hd : isd (tcb t B p) with
    | true =>
      have h48 := (hz_d h.2.2.2.2.2.1 B p).mpr hd
      have hs := hz_s h.2.2.2.2.2.1 B p (by omega)
      have hpl := tcb_l (t := t) (B := B) (i := p) (by omega)
      have hlen := RB_len h
      have hvb : v ≤ 99 ∧ 10 * v + 9 ≤ nb r := by
        unfold nb at hv ⊢
        rcases (show r = 0 ∨ r = 1 ∨ r = 2 by omega) with rfl | rfl | rfl
        · have hv : v ≤ 99 := hv
          exact ⟨hv, by show 10 * v + 9 ≤ 999; omega⟩
        · have hv : v ≤ 9 := hv
          exact ⟨by omega, by show 10 * v + 9 ≤ 99; omega⟩
        · have hv : v ≤ 0 := hv
          exact ⟨by omega, by show 10 * v + 9 ≤ 9; omega⟩
      rw [if_pos h48, if_neg (by decide), c_X12_here _ h p hp, bI_r, hp, w_s p (by omega), w_id (x := 10 * v) (by omega) (by omega), w_id (x := 10 * v + hz t B p) (by omega) (by omega), w_id (x := 10 * v + hz t B p - 48) (by omega) (by omega), show 10 * v + hz t B p - 48 = 10 * v + (tcb t B p - 48) by omega, nmF_y hd]
      have hge := nmF_le (tcb t B) r (10 * v + (tcb t B p - 48)) (p + 1)
      have key := ih (10 * v + (tcb t B p - 48)) (p + 1) (jup ν 69 24 ((p + 1 : Nat) : Int)) (RB_69 h (by decide) _) (jup_r _ _ _ _) ((jup_m (by decide)).trans h25) (by omega) (by omega) (by omega) (by omega)
      rw [if_neg (by omega)] at key
      rw [key, if_neg (by omega), jup_jup]
    | false =>
      have h48 : ¬ (48 ≤ hz t B p ∧ hz t B p ≤ 57) := fun z => by
        have := (hz_d h.2.2.2.2.2.1 B p).mp z
        rw [hd] at this
        cases this
      rw [if_neg h48, if_pos rfl, nmF_n hd, hp]
      show (if (p : Int) = (f : Int) then _ else _) = if p = f then rI v (jup ν 69 25 f) else rI v (jup ν 69 24 (p : Int))
      by_cases hpf : p = f
      · rw [if_pos (by omega), if_pos hpf, c_X12_fault _ h25, bV_r, hpf]
      · rw [if_neg (by omega), if_neg hpf, jup_id hp]
theorem c_X12_number (d : Nat) {ν : jM} {P : Nat} {t : List Nat} {B : Int} (h : RB ν P t B) (p : Nat) (hp : ν 69 24 = (p : Int)) (h25 : ν 69 25 = -1) (hp80 : p ≤ 80) (n : Nat) (hn : n ≤ 3) : CL (d + 3) 219 [jR 69, jI n] ν = if (nmF (tcb t B) n 0 p).2 = p then rI (nmF (tcb t B) n 0 p).1 (jup ν 69 25 p) else rI (nmF (tcb t B) n 0 p).1 (jup ν 69 24 ((nmF (tcb t B) n 0 p).2 : Nat)) := by
  rw [e_X12_number, c_X12_fine _ h25, bI_r, if_neg (by decide), hp]
  exact c_X12_number_1 d n p hn hp80 n 0 p ν h hp h25 rfl (by decide) (by unfold nb; split <;> (try split) <;> (try split) <;> decide) (Nat.le_refl p)
theorem c_X12_numberN (d : Nat) {ν : jM} (h25 : ν 69 25 ≠ -1) (n : Int) : CL (d + 3) 219 [jR 69, jI n] ν = rI 0 ν := by
  rw [e_X12_number, c_X12_fineN _ h25, bI_r, if_pos rfl]
