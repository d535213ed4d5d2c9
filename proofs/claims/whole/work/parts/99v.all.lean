/-! the two objects and the array as one memory -/
theorem g_mem : ∀ (l : List Nat) (i : Nat), (∀ x ∈ l, x < 69) → l.getD i 0 < 69
  | [], _, _ => by simp
  | x :: l, 0, h => h x List.mem_cons_self
  | _ :: l, i + 1, h => g_mem l i (fun y hy => h y (List.mem_cons_of_mem _ hy))
theorem RF_lo {p : Nat} (hp : p < 69) (i : Int) : RF p i < 69 := by
  have h : ∀ p, p < 69 → ∀ x ∈ jRl.getD p [], x < 69 := by decide +kernel
  exact g_mem _ _ (h p hp)
theorem RF_hi : ∀ p, 69 ≤ p → p < 99 → ∀ k, k < jNf (KD p) → FT (KD p) k = 2 → 69 ≤ RF p k ∧ RF p k < 99 := by
  have h : ∀ p, p < 99 → 69 ≤ p → ∀ k, k < jNf (KD p) → FT (KD p) k = 2 → 69 ≤ RF p k ∧ RF p k < 99 := by decide +kernel
  exact fun p h1 h2 => h p h2 h1
theorem FT_3 : ∀ p, p < 99 → KD p < 20 → ∀ k, k < jNf (KD p) → (FT (KD p) k < 2 ∨ FT (KD p) k = 2 ∨ mu0 p k < 0) := by decide +kernel
theorem KD_hi : ∀ p, 69 ≤ p → p < 99 → KD p ≤ 23 := by
  have h : ∀ p, p < 99 → 69 ≤ p → KD p ≤ 23 := by decide +kernel
  exact fun p h1 h2 => h p h2 h1
theorem jce_cg {cA : Nat → ClassId} {a1 a2 : Nat → Nat} {p : Nat} (hp : p < 99) (h1 : KD p < 20 → ∀ k, k < jNf (KD p) → FT (KD p) k = 2 → a1 (RF p k) = a2 (RF p k)) (h2 : 23 < KD p → ∀ j : Int, a1 (RF p j) = a2 (RF p j)) : jce cA a1 (mu0 p) p = jce cA a2 (mu0 p) p := by
  by_cases h : KD p < 20
  · rw [jce_o _ _ _ h, jce_o _ _ _ h]
    congr 2
    apply List.map_congr_left
    intro k hk
    have hk := List.mem_range.mp hk
    unfold jfl
    rcases FT_3 p hp h k hk with z | z | z
    · rw [if_pos z, if_pos z]
    · rw [if_neg (by omega), if_pos z, if_neg (by omega), if_pos z, h1 h k hk z]
    · by_cases y : FT (KD p) k < 2
      · rw [if_pos y, if_pos y]
      · by_cases y2 : FT (KD p) k = 2
        · rw [if_neg y, if_pos y2, if_neg y, if_pos y2, h1 h k hk y2]
        · rw [if_neg y, if_neg y2, if_neg (by omega), if_neg y, if_neg y2, if_neg (by omega)]
  · rw [jce_a _ _ _ h, jce_a _ _ _ h]
    congr 2
    by_cases h3 : KD p < 23
    · rw [jarr_i _ _ h3, jarr_i _ _ h3]
    · by_cases h4 : KD p = 23
      · rw [jarr_l _ _ h4, jarr_l _ _ h4]
      · rw [jarr_r _ _ (by omega), jarr_r _ _ (by omega)]
        congr 5
        funext j
        rw [h2 (by omega)]
def kad (a1 a2 : Nat → Nat) (q : Nat) : Nat → Nat := fun p => if p < 69 then a1 p else if p < 99 then a2 p else q
theorem kL_lo (cA : Nat → ClassId) (a1 a2 : Nat → Nat) (q : Nat) : kL cA (kad a1 a2 q) 0 69 = kL cA a1 0 69 := by
  apply List.map_congr_left
  intro p hp
  obtain ⟨i, hi, rfl⟩ := List.mem_range'.mp hp
  have hp : 0 + 1 * i < 69 := by omega
  have e : ∀ p, p < 69 → kad a1 a2 q p = a1 p := fun p h => if_pos h
  rw [e _ hp, jce_cg (a2 := a1) (by omega) (fun _ k _ _ => e _ (RF_lo hp _)) (fun _ j => e _ (RF_lo hp _))]
theorem kL_hi (cA : Nat → ClassId) (a1 a2 : Nat → Nat) (q : Nat) : kL cA (kad a1 a2 q) 69 30 = kL cA a2 69 30 := by
  apply List.map_congr_left
  intro p hp
  obtain ⟨i, hi, rfl⟩ := List.mem_range'.mp hp
  have hp : 69 + 1 * i < 99 := by omega
  have hp2 : 69 ≤ 69 + 1 * i := by omega
  have e : ∀ p, 69 ≤ p → p < 99 → kad a1 a2 q p = a2 p := fun p h h2 => by
    unfold kad
    rw [if_neg (by omega), if_pos h2]
  rw [e _ hp2 hp, jce_cg (a2 := a2) (by omega) (fun _ k hk z => e _ (RF_hi _ hp2 hp k hk z).1 (RF_hi _ hp2 hp k hk z).2) (fun z j => absurd (KD_hi _ hp2 hp) (by omega))]
theorem kL_jws (cA : Nat → ClassId) (ad : Nat → Nat) : jws cA ad mu0 = kL cA ad 0 69 ++ (kL cA ad 69 30 ++ kL cA ad 99 1) := by
  unfold jws kL
  rw [← List.map_append, ← List.map_append]
  congr 1
theorem k_all {D : va_G} {A : Nat → Prop} {cA : Nat → ClassId} {a1 a2 : Nat → Nat} {q : Nat} {H : Heap} (hP : va_P D vwCl (kL cA a1 0 69 ++ (kL cA a2 69 30 ++ [(q, .inl (cA 23, 1, .inr (.inl (fun _ => 0))))])) H) (hD : va_D A (kL cA a1 0 69 ++ (kL cA a2 69 30 ++ [(q, .inl (cA 23, 1, .inr (.inl (fun _ => 0))))]))) : va_P D vwCl (jws cA (kad a1 a2 q) mu0) H ∧ va_D A (jws cA (kad a1 a2 q) mu0) := by
  have e : kL cA (kad a1 a2 q) 99 1 = [(q, .inl (cA 23, 1, .inr (.inl (fun _ => 0))))] := rfl
  rw [kL_jws, kL_lo, kL_hi, e]
  exact ⟨hP, hD⟩
theorem jws_inj {A : Nat → Prop} {cA : Nat → ClassId} {ad : Nat → Nat} {μ : jM} (h : va_D A (jws cA ad μ)) : ∀ i j, i < 100 → j < 100 → ad i = ad j → i = j := fun i j hi hj e => h.1 i j _ _ (jws_at cA ad μ hi) (jws_at cA ad μ hj) e
theorem jws_A {A : Nat → Prop} {cA : Nat → ClassId} {ad : Nat → Nat} {μ : jM} (h : va_D A (jws cA ad μ)) {p : Nat} (hp : p < 100) : A (ad p) := h.2 p _ (jws_at cA ad μ hp)
