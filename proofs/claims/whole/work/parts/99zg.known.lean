/-! what is known at the law's entry: classes, arrays -/
theorem k_aoa {s : State} {a : Array Value} (h : (Cond.arrayOver (.array .int)).before a s = true) : ∃ c : ClassId, ArrOfT s c (.array .int) ∧ va_RA s c (.array .int) := by
  have h : (Cond.arrayOver (.array .int)).holds a s none s [] = true := h
  simp only [Cond.holds, Cond.value, beq_iff_eq] at h
  cases hc : s.vm.findClass (FieldType.array .int).toString with
  | none => simp [hc] at h
  | some comp =>
    simp only [hc, Option.bind_some, Option.bind_eq_some_iff, Option.map_eq_some_iff] at h
    obtain ⟨c, -, k, hk, hb⟩ := h
    cases hkind : k.kind with
    | array component ty =>
      rw [hkind] at hb
      simp at hb
      exact ⟨c, fun n z => ⟨fun k h => (by cases h), k, hk, component, by rw [hkind, hb.1]⟩, hb.2⟩
    | _ => rw [hkind] at hb; simp at hb
theorem k_ao {s : State} {C : String} (h : va_AO C s) : ∃ c : ClassId, ArrOfT s c (.object C) ∧ va_RA s c (.object C) := by
  obtain ⟨comp, c, k, h1, -, h3, h4, h5⟩ := Cond.arrayOver_spec h
  exact ⟨c, fun n z => ⟨fun k h => (by cases h), k, h3, comp, h4⟩, k, comp, h3, h4, h1, h5⟩
theorem k_mix {A : Nat → Prop} {wr w ys : va_W} (hD : va_D A (wr ++ w)) (hY : va_D (fun a => ∃ x ∈ w, x.1 = a) ys) : va_D A (wr ++ ys) := by
  have sp : ∀ (us : va_W) (i : Nat) (p : Nat × va_E), (wr ++ us)[i]? = some p → (i < wr.length ∧ wr[i]? = some p) ∨ (wr.length ≤ i ∧ us[i - wr.length]? = some p) := fun us i p h => by
    by_cases hi : i < wr.length
    · rw [List.getElem?_append_left hi] at h
      exact Or.inl ⟨hi, h⟩
    · rw [List.getElem?_append_right (by omega)] at h
      exact Or.inr ⟨by omega, h⟩
  have inl : ∀ (i : Nat) (p : Nat × va_E), wr[i]? = some p → (wr ++ w)[i]? = some p := fun i p h => by
    rw [List.getElem?_append_left (List.getElem?_eq_some_iff.mp h).1]
    exact h
  have inr : ∀ x ∈ w, ∃ j, wr.length ≤ j ∧ (wr ++ w)[j]? = some x := fun x hx => by
    obtain ⟨k, hk⟩ := List.getElem?_of_mem hx
    refine ⟨wr.length + k, Nat.le_add_right _ _, ?_⟩
    rw [List.getElem?_append_right (Nat.le_add_right _ _), Nat.add_sub_cancel_left]
    exact hk
  refine ⟨fun i j p q hi hj hpq => ?_, fun k q hk => ?_⟩
  · rcases sp ys i p hi with ⟨a1, a2⟩ | ⟨a1, a2⟩ <;> rcases sp ys j q hj with ⟨b1, b2⟩ | ⟨b1, b2⟩
    · exact hD.1 i j p q (inl i p a2) (inl j q b2) hpq
    · obtain ⟨x, hx, e⟩ := hY.2 _ q b2
      obtain ⟨z, hz, hz2⟩ := inr x hx
      have := hD.1 i z p x (inl i p a2) hz2 (by rw [e]; exact hpq)
      omega
    · obtain ⟨x, hx, e⟩ := hY.2 _ p a2
      obtain ⟨z, hz, hz2⟩ := inr x hx
      have := hD.1 j z q x (inl j q b2) hz2 (by rw [e]; exact hpq.symm)
      omega
    · have := hY.1 _ _ p q a2 b2 hpq
      omega
  · rcases sp ys k q hk with ⟨a1, a2⟩ | ⟨a1, a2⟩
    · exact hD.2 k q (inl k q a2)
    · obtain ⟨x, hx, e⟩ := hY.2 _ q a2
      obtain ⟨z, hz, hz2⟩ := inr x hx
      rw [← e]
      exact hD.2 z x hz2
theorem k_own {A : Nat → Prop} {wr w : va_W} (hD : va_D A (wr ++ w)) : va_D (fun a => ∃ x ∈ w, x.1 = a) w := by
  have inr : ∀ (k : Nat) (x : Nat × va_E), w[k]? = some x → (wr ++ w)[wr.length + k]? = some x := fun k x hk => by
    rw [List.getElem?_append_right (Nat.le_add_right _ _), Nat.add_sub_cancel_left]
    exact hk
  refine ⟨fun i j p q hi hj hpq => ?_, fun k q hk => ⟨q, List.mem_of_getElem? hk, rfl⟩⟩
  have := hD.1 _ _ p q (inr i p hi) (inr j q hj) hpq
  omega
theorem k_right {D : va_G} {H : Heap} {wr w : va_W} (hP : va_P D vwCl (wr ++ w) H) : va_P D vwCl w H := fun k x hk => hP (wr.length + k) x (by
  rw [List.getElem?_append_right (Nat.le_add_right _ _), Nat.add_sub_cancel_left]
  exact hk)
theorem k_left {D : va_G} {H : Heap} {wr w : va_W} (hP : va_P D vwCl (wr ++ w) H) : va_P D vwCl wr H := fun k x hk => hP k x (by
  rw [List.getElem?_append_left (List.getElem?_eq_some_iff.mp hk).1]
  exact hk)
