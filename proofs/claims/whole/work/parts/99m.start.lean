/-! the memory of the two new objects and the new array -/
def mu0 : jM := fun p i => if p = 17 ∨ p = 19 ∨ p = 62 ∨ p = 66 ∨ p = 70 then (if 0 ≤ i ∧ i < 8 then 99 else 0) else if p = 16 ∨ p = 18 ∨ p = 61 ∨ p = 65 then (if i = 1 then 1 else if i = 2 then 9 else 0) else if p = 69 then (if i = 9 then 1 else if i = 10 then 9 else if i = 28 then -1 else if i = 21 then -1 else 0) else if p = 28 then (if 0 ≤ i ∧ i < 2 then -1 else 0) else 0
theorem mu0_b (p : Nat) (i : Int) : -1 ≤ mu0 p i ∧ mu0 p i ≤ 99 := by
  unfold mu0
  repeat' split
  all_goals omega
theorem mu0_ok : jokM mu0 := by
  intro p i
  have h := mu0_b p i
  unfold j64 j32
  exact ⟨fun _ => by omega, fun _ => by omega⟩
def kt0 : Kt := (0, 0, fun _ => 0, fun _ => 0, fun _ => 0, fun _ => 0, fun _ => 0, fun _ => 0)
def lw0 : Lw := (1, 9, 0, fun _ => 99)
def kp0 : Kp := fun _ => (false, lw0, [], 0, 0)
theorem kok0 : Kok kt0 := ⟨by decide, by decide, fun d h => absurd h (Nat.not_lt_zero d), fun g h => absurd h (Nat.not_lt_zero g)⟩
theorem lok0 : Lok lw0 := ⟨by decide, by decide, by decide, fun _ _ => Nat.le_refl 99⟩
theorem bok0 (n : Nat) : Bok n [] := ⟨List.nodup_nil, fun x h => absurd h List.not_mem_nil⟩
theorem mu0_st {p : Nat} (h : p = 17 ∨ p = 19 ∨ p = 62 ∨ p = 66 ∨ p = 70) (s : Nat) (hs : s < 8) : mu0 p s = (lst lw0 s : Int) := by
  unfold mu0
  rw [if_pos h, if_pos (by omega)]
  rfl
theorem rok0 : Rok [] := ⟨by decide, fun x h => absurd h List.not_mem_nil, _, rfl⟩
theorem cS0 : cS mu0 kt0 lw0 [] (fun _ => []) [] kp0 [] [] := by
  refine ⟨⟨kok0, by decide, by decide, fun d h => absurd h (Nat.not_lt_zero d), fun g h => absurd h (Nat.not_lt_zero g), fun s hs => ?_⟩, ⟨Or.inl rfl, lok0, by decide, by decide, by decide, fun s hs => mu0_st (Or.inl rfl) s hs⟩, ⟨Or.inl rfl, bok0 10, by decide, by decide, fun i h => absurd h (Nat.not_lt_zero i)⟩, fun i hi => ⟨?_, Nat.zero_le _, ?_, fun j h => absurd h (Nat.not_lt_zero j)⟩, ⟨by decide, by decide, LA_nil _⟩, fun i hi => ⟨fun _ => ?_, fun z => by cases z⟩, ⟨by decide, fun x h => absurd h List.not_mem_nil, by decide, fun i h => absurd h (Nat.not_lt_zero i)⟩, ⟨rok0, by decide, fun i h => absurd h (Nat.not_lt_zero i)⟩⟩
  · have h : ∀ s, s < 8 → mu0 10 ((s : Nat) : Int) = (khs kt0 s : Int) := by decide
    exact h s hs
  · show 52 + 3 * i = 23 ∨ 52 + 3 * i = 52 ∨ 52 + 3 * i = 55 ∨ 52 + 3 * i = 58
    omega
  · have h : ∀ i, i < 3 → mu0 (52 + 3 * i) 2 = 0 := by decide
    exact h i hi
  · have h : ∀ i, i < 2 → mu0 28 ((i : Nat) : Int) = -1 := by decide
    exact h i hi
theorem rS0 : rS mu0 kt0 lw0 [] (fun _ => []) [] kp0 0 [] [] := by
  refine ⟨⟨kok0, by decide, by decide, fun d h => absurd h (Nat.not_lt_zero d), fun g h => absurd h (Nat.not_lt_zero g)⟩, ⟨lok0, by decide, by decide, by decide, fun s hs => mu0_st (Or.inr (Or.inr (Or.inr (Or.inr rfl)))) s hs⟩, ⟨bok0 10, by decide, fun i h => absurd h (Nat.not_lt_zero i)⟩, fun i hi => ⟨Nat.zero_le _, ?_, fun j h => absurd h (Nat.not_lt_zero j)⟩, ⟨by decide, by decide, LA_nil _⟩, fun i hi => ⟨fun _ => ?_, fun z => by cases z⟩, by decide, ⟨by decide, fun x h => absurd h List.not_mem_nil, by decide, fun i h => absurd h (Nat.not_lt_zero i)⟩, ⟨rok0, by decide, fun i h => absurd h (Nat.not_lt_zero i)⟩⟩
  · have h : ∀ i, i < 3 → mu0 79 ((i : Nat) : Int) = 0 := by decide
    exact h i hi
  · have h : ∀ i, i < 2 → mu0 97 ((i : Nat) : Int) = 0 := by decide
    exact h i hi
/-- both new objects stand for one state -/
theorem si_mu0 : SI mu0 := ⟨kt0, lw0, [], fun _ => [], [], kp0, 0, [], [], cS0, rS0, bok0 _, fun i hi x h => absurd h List.not_mem_nil, Nat.zero_le _, fun i hi z => by cases z⟩
