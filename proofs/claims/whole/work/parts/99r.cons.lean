def pw_fill (cA : Nat → ClassId) (q : Nat) : va_W → Prop := fun w => w = [(q, .inl (cA 20, 8, .inl (fun j : Nat => Int32.ofInt (mu0 17 (j : Int)))))]
theorem fill_eq : (upd (upd (upd (upd (upd (upd (upd (upd (fun _ => 0) 0 99) 1 99) 2 99) 3 99) 4 99) 5 99) 6 99) 7 99 : Nat → Int32) = fun j : Nat => Int32.ofInt (mu0 17 (j : Int)) := by
  funext j
  by_cases h : j < 8
  · have h2 : ∀ j, j < 8 → (upd (upd (upd (upd (upd (upd (upd (upd (fun _ => 0) 0 99) 1 99) 2 99) 3 99) 4 99) 5 99) 6 99) 7 99 : Nat → Int32) j = Int32.ofInt (mu0 17 j) := by decide
    exact h2 j h
  · have e1 : mu0 17 (j : Int) = 0 := by
      unfold mu0
      rw [if_pos (Or.inl rfl), if_neg (by omega)]
    rw [e1]
    simp only [upd]
    repeat rw [if_neg (by omega)]
    rfl
set_option maxHeartbeats 4000000 in
set_option maxRecDepth 100000 in
theorem cz_fill (l : Launch) (D : va_G) (cA : Nat → ClassId) (q sz : Nat) : Met l yJ7_fill_53178 (.code yJ7_fill_53178 cJ7_fill_53178 4 none :: jTs) ({ frames := 1, cells := 0, slots := 0, locals := 20 }) (va_Pc [.ref q, .int 99] (kPre D cA sz [(q, .inl (cA 20, 8, .inl (fun _ => 0)))])) (va_Qv (pw_fill cA q) (kPost D (va_A [(q, .inl (cA 20, 8, .inl (fun _ => 0)))] sz)) (va_A [(q, .inl (cA 20, 8, .inl (fun _ => 0)))] sz)) 0 0 (va_A [(q, .inl (cA 20, 8, .inl (fun _ => 0)))] sz) := by
  refine Met.ofW (cc := cJ7_fill_53178) (maxL := 4) (ret := none) (by decide) rfl ?_
  intro p e s m args below meth c s₁ B hml hv
  obtain ⟨rfl, hsz, hP, hK, hD0, hO, hN⟩ := hv
  have hx := B.exec
  have hb := B.bytes
  have hr := B.returns
  have hts0 := atoms_spec (ws := .code yJ7_fill_53178 cJ7_fill_53178 4 none :: jTs) B.pre
  have hts : ∀ w ∈ jTs, w.before _ s = true := fun w hw => hts0 w (List.mem_cons_of_mem _ hw)
  have hown : s.vm.findClass RJ7 = some m.cls := findClass_of_methodNamed B.named
  have hlocks := B.notSynchronized
  subst hsz
  have hD := hD0.self (sz := s.heap.size)
  generalize hAe : va_A [(q, .inl (cA 20, 8, .inl (fun _ => 0)))] s.heap.size = A at hD ⊢
  have hA : ∀ q : Nat, s.heap.size ≤ q → A q := fun q h => by rw [← hAe]; exact Or.inr h
  have hS : va_S A s.heap s.heap [] := va_S.rf
  have hP : va_P D vwCl [(q, .inl (cA 20, 8, .inl (fun _ => 0)))] s.heap := hP
  have hl := lv_entry ([.ref q, .int 99]) (n := 4) (Nat.le_of_ble_eq_true rfl)
  rw [lg_entry_eq]
  generalize (lg_sl ([.ref q, .int 99]) ++ List.replicate (4 - (lg_sl ([.ref q, .int 99])).length) Slot.unset).toArray = ls at hl ⊢
  have hl : lv_has ls 4 [(0, .ref q), (1, .int 99)] := hl
  have _ := hl
  refine lv_iconst (v := 0) hx hb dJ7_fill_53178_0 (by decide) ?_
  refine lv_istore_n (lv' := [(2, .int 0), (0, .ref q), (1, .int 99)]) hx hb dJ7_fill_53178_1 rfl hl (by decide) rfl (fun ls hl => ?_)
  refine lv_aload_n hx hb dJ7_fill_53178_2 rfl (lv_at hl 1 rfl) ?_
  refine va_alen hx hb hK hP 0 0 rfl (ty := .int) rfl (v := 8) rfl dJ7_fill_53178_3 ?_
  refine lv_istore_n (lv' := [(3, .int 8), (2, .int 0), (0, .ref q), (1, .int 99)]) hx hb dJ7_fill_53178_4 rfl hl (by decide) rfl (fun ls hl => ?_)
  refine lv_iload_n hx hb dJ7_fill_53178_5 rfl (lv_at hl 1 rfl) ?_
  refine lv_iload_n hx hb dJ7_fill_53178_6 rfl (lv_at hl 0 rfl) ?_
  refine lv_icmp_ge (tgt := 20) hx hb dJ7_fill_53178_7 (by decide) (fun z => absurd z (by decide)) (fun _ => ?_)
  refine lv_aload_n hx hb dJ7_fill_53178_10 rfl (lv_at hl 2 rfl) ?_
  refine lv_iload_n hx hb dJ7_fill_53178_11 rfl (lv_at hl 1 rfl) ?_
  refine lv_iload_n hx hb dJ7_fill_53178_12 rfl (lv_at hl 3 rfl) ?_
  refine va_iast hx hb hK hP hD hS 0 0 rfl rfl (by unfold vp_in; decide) dJ7_fill_53178_13 (fun H locs hP hD hS => ?_)
  have hP : va_P D vwCl [(q, .inl (cA 20, 8, .inl (upd (fun _ => 0) 0 99)))] H := hP
  have hD : va_D A [(q, .inl (cA 20, 8, .inl (upd (fun _ => 0) 0 99)))] := hD
  refine lv_iinc (v := 1) (lv' := [(2, .int 1), (3, .int 8), (0, .ref q), (1, .int 99)]) hx hb dJ7_fill_53178_14 hl (k := 1) rfl (by decide) (by decide) rfl (fun ls hl => ?_)
  refine lv_goto (tgt := 5) hx hb dJ7_fill_53178_17 (by decide) ?_
  refine lv_iload_n hx hb dJ7_fill_53178_5 rfl (lv_at hl 0 rfl) ?_
  refine lv_iload_n hx hb dJ7_fill_53178_6 rfl (lv_at hl 1 rfl) ?_
  refine lv_icmp_ge (tgt := 20) hx hb dJ7_fill_53178_7 (by decide) (fun z => absurd z (by decide)) (fun _ => ?_)
  refine lv_aload_n hx hb dJ7_fill_53178_10 rfl (lv_at hl 2 rfl) ?_
  refine lv_iload_n hx hb dJ7_fill_53178_11 rfl (lv_at hl 0 rfl) ?_
  refine lv_iload_n hx hb dJ7_fill_53178_12 rfl (lv_at hl 3 rfl) ?_
  refine va_iast hx hb hK hP hD hS 0 0 rfl rfl (by unfold vp_in; decide) dJ7_fill_53178_13 (fun H locs hP hD hS => ?_)
  have hP : va_P D vwCl [(q, .inl (cA 20, 8, .inl (upd (upd (fun _ => 0) 0 99) 1 99)))] H := hP
  have hD : va_D A [(q, .inl (cA 20, 8, .inl (upd (upd (fun _ => 0) 0 99) 1 99)))] := hD
  refine lv_iinc (v := 2) (lv' := [(2, .int 2), (3, .int 8), (0, .ref q), (1, .int 99)]) hx hb dJ7_fill_53178_14 hl (k := 0) rfl (by decide) (by decide) rfl (fun ls hl => ?_)
  refine lv_goto (tgt := 5) hx hb dJ7_fill_53178_17 (by decide) ?_
  refine lv_iload_n hx hb dJ7_fill_53178_5 rfl (lv_at hl 0 rfl) ?_
  refine lv_iload_n hx hb dJ7_fill_53178_6 rfl (lv_at hl 1 rfl) ?_
  refine lv_icmp_ge (tgt := 20) hx hb dJ7_fill_53178_7 (by decide) (fun z => absurd z (by decide)) (fun _ => ?_)
  refine lv_aload_n hx hb dJ7_fill_53178_10 rfl (lv_at hl 2 rfl) ?_
  refine lv_iload_n hx hb dJ7_fill_53178_11 rfl (lv_at hl 0 rfl) ?_
  refine lv_iload_n hx hb dJ7_fill_53178_12 rfl (lv_at hl 3 rfl) ?_
  refine va_iast hx hb hK hP hD hS 0 0 rfl rfl (by unfold vp_in; decide) dJ7_fill_53178_13 (fun H locs hP hD hS => ?_)
  have hP : va_P D vwCl [(q, .inl (cA 20, 8, .inl (upd (upd (upd (fun _ => 0) 0 99) 1 99) 2 99)))] H := hP
  have hD : va_D A [(q, .inl (cA 20, 8, .inl (upd (upd (upd (fun _ => 0) 0 99) 1 99) 2 99)))] := hD
  refine lv_iinc (v := 3) (lv' := [(2, .int 3), (3, .int 8), (0, .ref q), (1, .int 99)]) hx hb dJ7_fill_53178_14 hl (k := 0) rfl (by decide) (by decide) rfl (fun ls hl => ?_)
  refine lv_goto (tgt := 5) hx hb dJ7_fill_53178_17 (by decide) ?_
  refine lv_iload_n hx hb dJ7_fill_53178_5 rfl (lv_at hl 0 rfl) ?_
  refine lv_iload_n hx hb dJ7_fill_53178_6 rfl (lv_at hl 1 rfl) ?_
  refine lv_icmp_ge (tgt := 20) hx hb dJ7_fill_53178_7 (by decide) (fun z => absurd z (by decide)) (fun _ => ?_)
  refine lv_aload_n hx hb dJ7_fill_53178_10 rfl (lv_at hl 2 rfl) ?_
  refine lv_iload_n hx hb dJ7_fill_53178_11 rfl (lv_at hl 0 rfl) ?_
  refine lv_iload_n hx hb dJ7_fill_53178_12 rfl (lv_at hl 3 rfl) ?_
  refine va_iast hx hb hK hP hD hS 0 0 rfl rfl (by unfold vp_in; decide) dJ7_fill_53178_13 (fun H locs hP hD hS => ?_)
  have hP : va_P D vwCl [(q, .inl (cA 20, 8, .inl (upd (upd (upd (upd (fun _ => 0) 0 99) 1 99) 2 99) 3 99)))] H := hP
  have hD : va_D A [(q, .inl (cA 20, 8, .inl (upd (upd (upd (upd (fun _ => 0) 0 99) 1 99) 2 99) 3 99)))] := hD
  refine lv_iinc (v := 4) (lv' := [(2, .int 4), (3, .int 8), (0, .ref q), (1, .int 99)]) hx hb dJ7_fill_53178_14 hl (k := 0) rfl (by decide) (by decide) rfl (fun ls hl => ?_)
  refine lv_goto (tgt := 5) hx hb dJ7_fill_53178_17 (by decide) ?_
  refine lv_iload_n hx hb dJ7_fill_53178_5 rfl (lv_at hl 0 rfl) ?_
  refine lv_iload_n hx hb dJ7_fill_53178_6 rfl (lv_at hl 1 rfl) ?_
  refine lv_icmp_ge (tgt := 20) hx hb dJ7_fill_53178_7 (by decide) (fun z => absurd z (by decide)) (fun _ => ?_)
  refine lv_aload_n hx hb dJ7_fill_53178_10 rfl (lv_at hl 2 rfl) ?_
  refine lv_iload_n hx hb dJ7_fill_53178_11 rfl (lv_at hl 0 rfl) ?_
  refine lv_iload_n hx hb dJ7_fill_53178_12 rfl (lv_at hl 3 rfl) ?_
  refine va_iast hx hb hK hP hD hS 0 0 rfl rfl (by unfold vp_in; decide) dJ7_fill_53178_13 (fun H locs hP hD hS => ?_)
  have hP : va_P D vwCl [(q, .inl (cA 20, 8, .inl (upd (upd (upd (upd (upd (fun _ => 0) 0 99) 1 99) 2 99) 3 99) 4 99)))] H := hP
  have hD : va_D A [(q, .inl (cA 20, 8, .inl (upd (upd (upd (upd (upd (fun _ => 0) 0 99) 1 99) 2 99) 3 99) 4 99)))] := hD
  refine lv_iinc (v := 5) (lv' := [(2, .int 5), (3, .int 8), (0, .ref q), (1, .int 99)]) hx hb dJ7_fill_53178_14 hl (k := 0) rfl (by decide) (by decide) rfl (fun ls hl => ?_)
  refine lv_goto (tgt := 5) hx hb dJ7_fill_53178_17 (by decide) ?_
  refine lv_iload_n hx hb dJ7_fill_53178_5 rfl (lv_at hl 0 rfl) ?_
  refine lv_iload_n hx hb dJ7_fill_53178_6 rfl (lv_at hl 1 rfl) ?_
  refine lv_icmp_ge (tgt := 20) hx hb dJ7_fill_53178_7 (by decide) (fun z => absurd z (by decide)) (fun _ => ?_)
  refine lv_aload_n hx hb dJ7_fill_53178_10 rfl (lv_at hl 2 rfl) ?_
  refine lv_iload_n hx hb dJ7_fill_53178_11 rfl (lv_at hl 0 rfl) ?_
  refine lv_iload_n hx hb dJ7_fill_53178_12 rfl (lv_at hl 3 rfl) ?_
  refine va_iast hx hb hK hP hD hS 0 0 rfl rfl (by unfold vp_in; decide) dJ7_fill_53178_13 (fun H locs hP hD hS => ?_)
  have hP : va_P D vwCl [(q, .inl (cA 20, 8, .inl (upd (upd (upd (upd (upd (upd (fun _ => 0) 0 99) 1 99) 2 99) 3 99) 4 99) 5 99)))] H := hP
  have hD : va_D A [(q, .inl (cA 20, 8, .inl (upd (upd (upd (upd (upd (upd (fun _ => 0) 0 99) 1 99) 2 99) 3 99) 4 99) 5 99)))] := hD
  refine lv_iinc (v := 6) (lv' := [(2, .int 6), (3, .int 8), (0, .ref q), (1, .int 99)]) hx hb dJ7_fill_53178_14 hl (k := 0) rfl (by decide) (by decide) rfl (fun ls hl => ?_)
  refine lv_goto (tgt := 5) hx hb dJ7_fill_53178_17 (by decide) ?_
  refine lv_iload_n hx hb dJ7_fill_53178_5 rfl (lv_at hl 0 rfl) ?_
  refine lv_iload_n hx hb dJ7_fill_53178_6 rfl (lv_at hl 1 rfl) ?_
  refine lv_icmp_ge (tgt := 20) hx hb dJ7_fill_53178_7 (by decide) (fun z => absurd z (by decide)) (fun _ => ?_)
  refine lv_aload_n hx hb dJ7_fill_53178_10 rfl (lv_at hl 2 rfl) ?_
  refine lv_iload_n hx hb dJ7_fill_53178_11 rfl (lv_at hl 0 rfl) ?_
  refine lv_iload_n hx hb dJ7_fill_53178_12 rfl (lv_at hl 3 rfl) ?_
  refine va_iast hx hb hK hP hD hS 0 0 rfl rfl (by unfold vp_in; decide) dJ7_fill_53178_13 (fun H locs hP hD hS => ?_)
  have hP : va_P D vwCl [(q, .inl (cA 20, 8, .inl (upd (upd (upd (upd (upd (upd (upd (fun _ => 0) 0 99) 1 99) 2 99) 3 99) 4 99) 5 99) 6 99)))] H := hP
  have hD : va_D A [(q, .inl (cA 20, 8, .inl (upd (upd (upd (upd (upd (upd (upd (fun _ => 0) 0 99) 1 99) 2 99) 3 99) 4 99) 5 99) 6 99)))] := hD
  refine lv_iinc (v := 7) (lv' := [(2, .int 7), (3, .int 8), (0, .ref q), (1, .int 99)]) hx hb dJ7_fill_53178_14 hl (k := 0) rfl (by decide) (by decide) rfl (fun ls hl => ?_)
  refine lv_goto (tgt := 5) hx hb dJ7_fill_53178_17 (by decide) ?_
  refine lv_iload_n hx hb dJ7_fill_53178_5 rfl (lv_at hl 0 rfl) ?_
  refine lv_iload_n hx hb dJ7_fill_53178_6 rfl (lv_at hl 1 rfl) ?_
  refine lv_icmp_ge (tgt := 20) hx hb dJ7_fill_53178_7 (by decide) (fun z => absurd z (by decide)) (fun _ => ?_)
  refine lv_aload_n hx hb dJ7_fill_53178_10 rfl (lv_at hl 2 rfl) ?_
  refine lv_iload_n hx hb dJ7_fill_53178_11 rfl (lv_at hl 0 rfl) ?_
  refine lv_iload_n hx hb dJ7_fill_53178_12 rfl (lv_at hl 3 rfl) ?_
  refine va_iast hx hb hK hP hD hS 0 0 rfl rfl (by unfold vp_in; decide) dJ7_fill_53178_13 (fun H locs hP hD hS => ?_)
  have hP : va_P D vwCl [(q, .inl (cA 20, 8, .inl (upd (upd (upd (upd (upd (upd (upd (upd (fun _ => 0) 0 99) 1 99) 2 99) 3 99) 4 99) 5 99) 6 99) 7 99)))] H := hP
  have hD : va_D A [(q, .inl (cA 20, 8, .inl (upd (upd (upd (upd (upd (upd (upd (upd (fun _ => 0) 0 99) 1 99) 2 99) 3 99) 4 99) 5 99) 6 99) 7 99)))] := hD
  refine lv_iinc (v := 8) (lv' := [(2, .int 8), (3, .int 8), (0, .ref q), (1, .int 99)]) hx hb dJ7_fill_53178_14 hl (k := 0) rfl (by decide) (by decide) rfl (fun ls hl => ?_)
  refine lv_goto (tgt := 5) hx hb dJ7_fill_53178_17 (by decide) ?_
  refine lv_iload_n hx hb dJ7_fill_53178_5 rfl (lv_at hl 0 rfl) ?_
  refine lv_iload_n hx hb dJ7_fill_53178_6 rfl (lv_at hl 1 rfl) ?_
  refine lv_icmp_ge (tgt := 20) hx hb dJ7_fill_53178_7 (by decide) (fun _ => ?_) (fun z => absurd (by decide) z)
  rw [fill_eq] at hP hD
  exact W.vret hx hb hr (fun t ht hW => ⟨⟨[(q, .inl (cA 20, 8, .inl (fun j : Nat => Int32.ofInt (mu0 17 (j : Int)))))], rfl, rfl, by rw [ht]; exact hP, hD⟩, hS.F ht⟩) hS.2.2 dJ7_fill_53178_20
def pw_ci_X0 (cA : Nat → ClassId) (h0 : Nat) : va_W → Prop := fun w => ∃ q1 : Nat, w = [(h0, .inr (0, [.ref q1, .int 0, .int 0])), (q1, .inl (cA 20, 10, .inl (fun _ => 0)))]
set_option maxHeartbeats 4000000 in
set_option maxRecDepth 100000 in
theorem ci_X0 (l : Launch) (D : va_G) (cA : Nat → ClassId) (h0 sz : Nat) : Met l yX0_init (.code yX0_init cX0_init 1 none :: jTs) ({ frames := 1, cells := 1, slots := 10, locals := 20 }) (va_Pc [.ref h0] (kPre D cA sz [(h0, .inr (0, [.null, .int 0, .int 0]))])) (va_Qv (pw_ci_X0 cA h0) (kPost D (va_A [(h0, .inr (0, [.null, .int 0, .int 0]))] sz)) (va_A [(h0, .inr (0, [.null, .int 0, .int 0]))] sz)) 1 10 (va_A [(h0, .inr (0, [.null, .int 0, .int 0]))] sz) := by
  refine Met.ofW (cc := cX0_init) (maxL := 1) (ret := none) (by decide) rfl ?_
  intro p e s m args below meth c s₁ B hml hv
  obtain ⟨rfl, hsz, hP, hK, hD0, hO, hN⟩ := hv
  have hx := B.exec
  have hb := B.bytes
  have hr := B.returns
  have hts0 := atoms_spec (ws := .code yX0_init cX0_init 1 none :: jTs) B.pre
  have hts : ∀ w ∈ jTs, w.before _ s = true := fun w hw => hts0 w (List.mem_cons_of_mem _ hw)
  have hown : s.vm.findClass RX0 = some m.cls := findClass_of_methodNamed B.named
  have hlocks := B.notSynchronized
  have hin : meth.name = "<init>" := (name_of_methodNamed B.named B.method).1
  subst hsz
  have hD := hD0.self (sz := s.heap.size)
  generalize hAe : va_A [(h0, .inr (0, [.null, .int 0, .int 0]))] s.heap.size = A at hD ⊢
  have hA : ∀ q : Nat, s.heap.size ≤ q → A q := fun q h => by rw [← hAe]; exact Or.inr h
  have hS : va_S A s.heap s.heap [] := va_S.rf
  have hP : va_P D vwCl [(h0, .inr (0, [.null, .int 0, .int 0]))] s.heap := hP
  have hl := lv_entry ([.ref h0]) (n := 1) (Nat.le_of_ble_eq_true rfl)
  rw [lg_entry_eq]
  generalize (lg_sl ([.ref h0]) ++ List.replicate (1 - (lg_sl ([.ref h0])).length) Slot.unset).toArray = ls at hl ⊢
  have hl : lv_has ls 1 [(0, .ref h0)] := hl
  have _ := hl
  refine lv_aload_n hx hb dX0_init_0 rfl (lv_at hl 0 rfl) ?_
  refine W.objInit hx hb hown (hts _ kw_253) (hts _ kw_132) (hts _ kw_133) rfl (by rw [hml]; exact hl.1) rfl dX0_init_1 (Nat.le_of_ble_eq_true rfl) (Nat.le_of_ble_eq_true rfl) ?_
  refine W.eq (g2 := F0 m 4 ls []) rfl ?_
  refine lv_aload_n hx hb dX0_init_4 rfl (lv_at hl 0 rfl) ?_
  refine lv_bipush (v := 10) hx hb dX0_init_5 (by decide) ?_
  refine k_newa (atype := .int) (ty := .int) (a0 := (10, .inl (fun _ => 0))) hx hb (hts _ kw_147) rfl hK hP hD hS hA 0 20 rfl (fun _ => rfl) (by decide) (by decide) (Nat.le_of_ble_eq_true rfl) (Nat.le_of_ble_eq_true rfl) (Nat.le_of_ble_eq_true rfl) dX0_init_7 (fun q1 H hP hD hS => ?_)
  have hP : va_P D vwCl [(h0, .inr (0, [.null, .int 0, .int 0])), (q1, .inl (cA 20, 10, .inl (fun _ => 0)))] H := hP
  have hD : va_D A [(h0, .inr (0, [.null, .int 0, .int 0])), (q1, .inl (cA 20, 10, .inl (fun _ => 0)))] := hD
  refine va_putF (D := D) (ci := 0) (v := .ref q1) (ty := .array .int) (C := RX0) (T := TX0) (N := 3) hx hb hts ju_0 tyX0 tyX0_ok nmX0 hown hK hP hD hS 0 rfl rfl 0 (by decide) (hts _ kw_254) (fun _ h9 => h9) rfl hin rfl (by decide +kernel) rfl rfl (Nat.le_of_ble_eq_true rfl) dX0_init_9 (fun H locs hP hD hS => ?_)
  have hP : va_P D vwCl [(h0, .inr (0, [.ref q1, .int 0, .int 0])), (q1, .inl (cA 20, 10, .inl (fun _ => 0)))] H := hP
  have hD : va_D A [(h0, .inr (0, [.ref q1, .int 0, .int 0])), (q1, .inl (cA 20, 10, .inl (fun _ => 0)))] := hD
  refine W.widen (k := 1) (n := 10) (Nat.le_of_ble_eq_true rfl) (Nat.le_of_ble_eq_true rfl) ?_
  exact W.vret hx hb hr (fun t ht hW => ⟨⟨[(h0, .inr (0, [.ref q1, .int 0, .int 0])), (q1, .inl (cA 20, 10, .inl (fun _ => 0)))], rfl, ⟨q1, rfl⟩, by rw [ht]; exact hP, hD⟩, hS.F ht⟩) hS.2.2 dX0_init_12
def pw_ci_X1 (cA : Nat → ClassId) (h0 : Nat) : va_W → Prop := fun w => ∃ q1 : Nat, ∃ q2 : Nat, ∃ q3 : Nat, ∃ q4 : Nat, ∃ q5 : Nat, ∃ q6 : Nat, ∃ q7 : Nat, w = [(h0, .inr (1, [.ref q1, .ref q2, .ref q3, .ref q4, .ref q5, .ref q6, .ref q7, .int 0, .int 0])), (q1, .inl (cA 20, 10, .inl (fun _ => 0))), (q2, .inl (cA 20, 10, .inl (fun _ => 0))), (q3, .inl (cA 20, 10, .inl (fun _ => 0))), (q4, .inl (cA 20, 10, .inl (fun _ => 0))), (q5, .inl (cA 20, 6, .inl (fun _ => 0))), (q6, .inl (cA 20, 6, .inl (fun _ => 0))), (q7, .inl (cA 20, 8, .inl (fun _ => 0)))]
set_option maxHeartbeats 4000000 in
set_option maxRecDepth 100000 in
theorem ci_X1 (l : Launch) (D : va_G) (cA : Nat → ClassId) (h0 sz : Nat) : Met l yX1_init (.code yX1_init cX1_init 1 none :: jTs) ({ frames := 1, cells := 7, slots := 60, locals := 20 }) (va_Pc [.ref h0] (kPre D cA sz [(h0, .inr (1, [.null, .null, .null, .null, .null, .null, .null, .int 0, .int 0]))])) (va_Qv (pw_ci_X1 cA h0) (kPost D (va_A [(h0, .inr (1, [.null, .null, .null, .null, .null, .null, .null, .int 0, .int 0]))] sz)) (va_A [(h0, .inr (1, [.null, .null, .null, .null, .null, .null, .null, .int 0, .int 0]))] sz)) 7 60 (va_A [(h0, .inr (1, [.null, .null, .null, .null, .null, .null, .null, .int 0, .int 0]))] sz) := by
  refine Met.ofW (cc := cX1_init) (maxL := 1) (ret := none) (by decide) rfl ?_
  intro p e s m args below meth c s₁ B hml hv
  obtain ⟨rfl, hsz, hP, hK, hD0, hO, hN⟩ := hv
  have hx := B.exec
  have hb := B.bytes
  have hr := B.returns
  have hts0 := atoms_spec (ws := .code yX1_init cX1_init 1 none :: jTs) B.pre
  have hts : ∀ w ∈ jTs, w.before _ s = true := fun w hw => hts0 w (List.mem_cons_of_mem _ hw)
  have hown : s.vm.findClass RX1 = some m.cls := findClass_of_methodNamed B.named
  have hlocks := B.notSynchronized
  have hin : meth.name = "<init>" := (name_of_methodNamed B.named B.method).1
  subst hsz
  have hD := hD0.self (sz := s.heap.size)
  generalize hAe : va_A [(h0, .inr (1, [.null, .null, .null, .null, .null, .null, .null, .int 0, .int 0]))] s.heap.size = A at hD ⊢
  have hA : ∀ q : Nat, s.heap.size ≤ q → A q := fun q h => by rw [← hAe]; exact Or.inr h
  have hS : va_S A s.heap s.heap [] := va_S.rf
  have hP : va_P D vwCl [(h0, .inr (1, [.null, .null, .null, .null, .null, .null, .null, .int 0, .int 0]))] s.heap := hP
  have hl := lv_entry ([.ref h0]) (n := 1) (Nat.le_of_ble_eq_true rfl)
  rw [lg_entry_eq]
  generalize (lg_sl ([.ref h0]) ++ List.replicate (1 - (lg_sl ([.ref h0])).length) Slot.unset).toArray = ls at hl ⊢
  have hl : lv_has ls 1 [(0, .ref h0)] := hl
  have _ := hl
  refine lv_aload_n hx hb dX1_init_0 rfl (lv_at hl 0 rfl) ?_
  refine W.objInit hx hb hown (hts _ kw_153) (hts _ kw_132) (hts _ kw_133) rfl (by rw [hml]; exact hl.1) rfl dX1_init_1 (Nat.le_of_ble_eq_true rfl) (Nat.le_of_ble_eq_true rfl) ?_
  refine W.eq (g2 := F0 m 4 ls []) rfl ?_
  refine lv_aload_n hx hb dX1_init_4 rfl (lv_at hl 0 rfl) ?_
  refine lv_bipush (v := 10) hx hb dX1_init_5 (by decide) ?_
  refine k_newa (atype := .int) (ty := .int) (a0 := (10, .inl (fun _ => 0))) hx hb (hts _ kw_147) rfl hK hP hD hS hA 0 20 rfl (fun _ => rfl) (by decide) (by decide) (Nat.le_of_ble_eq_true rfl) (Nat.le_of_ble_eq_true rfl) (Nat.le_of_ble_eq_true rfl) dX1_init_7 (fun q1 H hP hD hS => ?_)
  have hP : va_P D vwCl [(h0, .inr (1, [.null, .null, .null, .null, .null, .null, .null, .int 0, .int 0])), (q1, .inl (cA 20, 10, .inl (fun _ => 0)))] H := hP
  have hD : va_D A [(h0, .inr (1, [.null, .null, .null, .null, .null, .null, .null, .int 0, .int 0])), (q1, .inl (cA 20, 10, .inl (fun _ => 0)))] := hD
  refine va_putF (D := D) (ci := 1) (v := .ref q1) (ty := .array .int) (C := RX1) (T := TX1) (N := 9) hx hb hts ju_1 tyX1 tyX1_ok nmX1 hown hK hP hD hS 0 rfl rfl 0 (by decide) (hts _ kw_154) (fun _ h9 => h9) rfl hin rfl (by decide +kernel) rfl rfl (Nat.le_of_ble_eq_true rfl) dX1_init_9 (fun H locs hP hD hS => ?_)
  have hP : va_P D vwCl [(h0, .inr (1, [.ref q1, .null, .null, .null, .null, .null, .null, .int 0, .int 0])), (q1, .inl (cA 20, 10, .inl (fun _ => 0)))] H := hP
  have hD : va_D A [(h0, .inr (1, [.ref q1, .null, .null, .null, .null, .null, .null, .int 0, .int 0])), (q1, .inl (cA 20, 10, .inl (fun _ => 0)))] := hD
  refine lv_aload_n hx hb dX1_init_12 rfl (lv_at hl 0 rfl) ?_
  refine lv_bipush (v := 10) hx hb dX1_init_13 (by decide) ?_
  refine k_newa (atype := .int) (ty := .int) (a0 := (10, .inl (fun _ => 0))) hx hb (hts _ kw_147) rfl hK hP hD hS hA 0 20 rfl (fun _ => rfl) (by decide) (by decide) (Nat.le_of_ble_eq_true rfl) (Nat.le_of_ble_eq_true rfl) (Nat.le_of_ble_eq_true rfl) dX1_init_15 (fun q2 H hP hD hS => ?_)
  have hP : va_P D vwCl [(h0, .inr (1, [.ref q1, .null, .null, .null, .null, .null, .null, .int 0, .int 0])), (q1, .inl (cA 20, 10, .inl (fun _ => 0))), (q2, .inl (cA 20, 10, .inl (fun _ => 0)))] H := hP
  have hD : va_D A [(h0, .inr (1, [.ref q1, .null, .null, .null, .null, .null, .null, .int 0, .int 0])), (q1, .inl (cA 20, 10, .inl (fun _ => 0))), (q2, .inl (cA 20, 10, .inl (fun _ => 0)))] := hD
  refine va_putF (D := D) (ci := 1) (v := .ref q2) (ty := .array .int) (C := RX1) (T := TX1) (N := 9) hx hb hts ju_1 tyX1 tyX1_ok nmX1 hown hK hP hD hS 0 rfl rfl 1 (by decide) (hts _ kw_155) (fun _ h9 => h9) rfl hin rfl (by decide +kernel) rfl rfl (Nat.le_of_ble_eq_true rfl) dX1_init_17 (fun H locs hP hD hS => ?_)
  have hP : va_P D vwCl [(h0, .inr (1, [.ref q1, .ref q2, .null, .null, .null, .null, .null, .int 0, .int 0])), (q1, .inl (cA 20, 10, .inl (fun _ => 0))), (q2, .inl (cA 20, 10, .inl (fun _ => 0)))] H := hP
  have hD : va_D A [(h0, .inr (1, [.ref q1, .ref q2, .null, .null, .null, .null, .null, .int 0, .int 0])), (q1, .inl (cA 20, 10, .inl (fun _ => 0))), (q2, .inl (cA 20, 10, .inl (fun _ => 0)))] := hD
  refine lv_aload_n hx hb dX1_init_20 rfl (lv_at hl 0 rfl) ?_
  refine lv_bipush (v := 10) hx hb dX1_init_21 (by decide) ?_
  refine k_newa (atype := .int) (ty := .int) (a0 := (10, .inl (fun _ => 0))) hx hb (hts _ kw_147) rfl hK hP hD hS hA 0 20 rfl (fun _ => rfl) (by decide) (by decide) (Nat.le_of_ble_eq_true rfl) (Nat.le_of_ble_eq_true rfl) (Nat.le_of_ble_eq_true rfl) dX1_init_23 (fun q3 H hP hD hS => ?_)
  have hP : va_P D vwCl [(h0, .inr (1, [.ref q1, .ref q2, .null, .null, .null, .null, .null, .int 0, .int 0])), (q1, .inl (cA 20, 10, .inl (fun _ => 0))), (q2, .inl (cA 20, 10, .inl (fun _ => 0))), (q3, .inl (cA 20, 10, .inl (fun _ => 0)))] H := hP
  have hD : va_D A [(h0, .inr (1, [.ref q1, .ref q2, .null, .null, .null, .null, .null, .int 0, .int 0])), (q1, .inl (cA 20, 10, .inl (fun _ => 0))), (q2, .inl (cA 20, 10, .inl (fun _ => 0))), (q3, .inl (cA 20, 10, .inl (fun _ => 0)))] := hD
  refine va_putF (D := D) (ci := 1) (v := .ref q3) (ty := .array .int) (C := RX1) (T := TX1) (N := 9) hx hb hts ju_1 tyX1 tyX1_ok nmX1 hown hK hP hD hS 0 rfl rfl 2 (by decide) (hts _ kw_156) (fun _ h9 => h9) rfl hin rfl (by decide +kernel) rfl rfl (Nat.le_of_ble_eq_true rfl) dX1_init_25 (fun H locs hP hD hS => ?_)
  have hP : va_P D vwCl [(h0, .inr (1, [.ref q1, .ref q2, .ref q3, .null, .null, .null, .null, .int 0, .int 0])), (q1, .inl (cA 20, 10, .inl (fun _ => 0))), (q2, .inl (cA 20, 10, .inl (fun _ => 0))), (q3, .inl (cA 20, 10, .inl (fun _ => 0)))] H := hP
  have hD : va_D A [(h0, .inr (1, [.ref q1, .ref q2, .ref q3, .null, .null, .null, .null, .int 0, .int 0])), (q1, .inl (cA 20, 10, .inl (fun _ => 0))), (q2, .inl (cA 20, 10, .inl (fun _ => 0))), (q3, .inl (cA 20, 10, .inl (fun _ => 0)))] := hD
  refine lv_aload_n hx hb dX1_init_28 rfl (lv_at hl 0 rfl) ?_
  refine lv_bipush (v := 10) hx hb dX1_init_29 (by decide) ?_
  refine k_newa (atype := .int) (ty := .int) (a0 := (10, .inl (fun _ => 0))) hx hb (hts _ kw_147) rfl hK hP hD hS hA 0 20 rfl (fun _ => rfl) (by decide) (by decide) (Nat.le_of_ble_eq_true rfl) (Nat.le_of_ble_eq_true rfl) (Nat.le_of_ble_eq_true rfl) dX1_init_31 (fun q4 H hP hD hS => ?_)
  have hP : va_P D vwCl [(h0, .inr (1, [.ref q1, .ref q2, .ref q3, .null, .null, .null, .null, .int 0, .int 0])), (q1, .inl (cA 20, 10, .inl (fun _ => 0))), (q2, .inl (cA 20, 10, .inl (fun _ => 0))), (q3, .inl (cA 20, 10, .inl (fun _ => 0))), (q4, .inl (cA 20, 10, .inl (fun _ => 0)))] H := hP
  have hD : va_D A [(h0, .inr (1, [.ref q1, .ref q2, .ref q3, .null, .null, .null, .null, .int 0, .int 0])), (q1, .inl (cA 20, 10, .inl (fun _ => 0))), (q2, .inl (cA 20, 10, .inl (fun _ => 0))), (q3, .inl (cA 20, 10, .inl (fun _ => 0))), (q4, .inl (cA 20, 10, .inl (fun _ => 0)))] := hD
  refine va_putF (D := D) (ci := 1) (v := .ref q4) (ty := .array .int) (C := RX1) (T := TX1) (N := 9) hx hb hts ju_1 tyX1 tyX1_ok nmX1 hown hK hP hD hS 0 rfl rfl 3 (by decide) (hts _ kw_157) (fun _ h9 => h9) rfl hin rfl (by decide +kernel) rfl rfl (Nat.le_of_ble_eq_true rfl) dX1_init_33 (fun H locs hP hD hS => ?_)
  have hP : va_P D vwCl [(h0, .inr (1, [.ref q1, .ref q2, .ref q3, .ref q4, .null, .null, .null, .int 0, .int 0])), (q1, .inl (cA 20, 10, .inl (fun _ => 0))), (q2, .inl (cA 20, 10, .inl (fun _ => 0))), (q3, .inl (cA 20, 10, .inl (fun _ => 0))), (q4, .inl (cA 20, 10, .inl (fun _ => 0)))] H := hP
  have hD : va_D A [(h0, .inr (1, [.ref q1, .ref q2, .ref q3, .ref q4, .null, .null, .null, .int 0, .int 0])), (q1, .inl (cA 20, 10, .inl (fun _ => 0))), (q2, .inl (cA 20, 10, .inl (fun _ => 0))), (q3, .inl (cA 20, 10, .inl (fun _ => 0))), (q4, .inl (cA 20, 10, .inl (fun _ => 0)))] := hD
  refine lv_aload_n hx hb dX1_init_36 rfl (lv_at hl 0 rfl) ?_
  refine lv_bipush (v := 6) hx hb dX1_init_37 (by decide) ?_
  refine k_newa (atype := .int) (ty := .int) (a0 := (6, .inl (fun _ => 0))) hx hb (hts _ kw_147) rfl hK hP hD hS hA 0 20 rfl (fun _ => rfl) (by decide) (by decide) (Nat.le_of_ble_eq_true rfl) (Nat.le_of_ble_eq_true rfl) (Nat.le_of_ble_eq_true rfl) dX1_init_39 (fun q5 H hP hD hS => ?_)
  have hP : va_P D vwCl [(h0, .inr (1, [.ref q1, .ref q2, .ref q3, .ref q4, .null, .null, .null, .int 0, .int 0])), (q1, .inl (cA 20, 10, .inl (fun _ => 0))), (q2, .inl (cA 20, 10, .inl (fun _ => 0))), (q3, .inl (cA 20, 10, .inl (fun _ => 0))), (q4, .inl (cA 20, 10, .inl (fun _ => 0))), (q5, .inl (cA 20, 6, .inl (fun _ => 0)))] H := hP
  have hD : va_D A [(h0, .inr (1, [.ref q1, .ref q2, .ref q3, .ref q4, .null, .null, .null, .int 0, .int 0])), (q1, .inl (cA 20, 10, .inl (fun _ => 0))), (q2, .inl (cA 20, 10, .inl (fun _ => 0))), (q3, .inl (cA 20, 10, .inl (fun _ => 0))), (q4, .inl (cA 20, 10, .inl (fun _ => 0))), (q5, .inl (cA 20, 6, .inl (fun _ => 0)))] := hD
  refine va_putF (D := D) (ci := 1) (v := .ref q5) (ty := .array .int) (C := RX1) (T := TX1) (N := 9) hx hb hts ju_1 tyX1 tyX1_ok nmX1 hown hK hP hD hS 0 rfl rfl 4 (by decide) (hts _ kw_158) (fun _ h9 => h9) rfl hin rfl (by decide +kernel) rfl rfl (Nat.le_of_ble_eq_true rfl) dX1_init_41 (fun H locs hP hD hS => ?_)
  have hP : va_P D vwCl [(h0, .inr (1, [.ref q1, .ref q2, .ref q3, .ref q4, .ref q5, .null, .null, .int 0, .int 0])), (q1, .inl (cA 20, 10, .inl (fun _ => 0))), (q2, .inl (cA 20, 10, .inl (fun _ => 0))), (q3, .inl (cA 20, 10, .inl (fun _ => 0))), (q4, .inl (cA 20, 10, .inl (fun _ => 0))), (q5, .inl (cA 20, 6, .inl (fun _ => 0)))] H := hP
  have hD : va_D A [(h0, .inr (1, [.ref q1, .ref q2, .ref q3, .ref q4, .ref q5, .null, .null, .int 0, .int 0])), (q1, .inl (cA 20, 10, .inl (fun _ => 0))), (q2, .inl (cA 20, 10, .inl (fun _ => 0))), (q3, .inl (cA 20, 10, .inl (fun _ => 0))), (q4, .inl (cA 20, 10, .inl (fun _ => 0))), (q5, .inl (cA 20, 6, .inl (fun _ => 0)))] := hD
  refine lv_aload_n hx hb dX1_init_44 rfl (lv_at hl 0 rfl) ?_
  refine lv_bipush (v := 6) hx hb dX1_init_45 (by decide) ?_
  refine k_newa (atype := .int) (ty := .int) (a0 := (6, .inl (fun _ => 0))) hx hb (hts _ kw_147) rfl hK hP hD hS hA 0 20 rfl (fun _ => rfl) (by decide) (by decide) (Nat.le_of_ble_eq_true rfl) (Nat.le_of_ble_eq_true rfl) (Nat.le_of_ble_eq_true rfl) dX1_init_47 (fun q6 H hP hD hS => ?_)
  have hP : va_P D vwCl [(h0, .inr (1, [.ref q1, .ref q2, .ref q3, .ref q4, .ref q5, .null, .null, .int 0, .int 0])), (q1, .inl (cA 20, 10, .inl (fun _ => 0))), (q2, .inl (cA 20, 10, .inl (fun _ => 0))), (q3, .inl (cA 20, 10, .inl (fun _ => 0))), (q4, .inl (cA 20, 10, .inl (fun _ => 0))), (q5, .inl (cA 20, 6, .inl (fun _ => 0))), (q6, .inl (cA 20, 6, .inl (fun _ => 0)))] H := hP
  have hD : va_D A [(h0, .inr (1, [.ref q1, .ref q2, .ref q3, .ref q4, .ref q5, .null, .null, .int 0, .int 0])), (q1, .inl (cA 20, 10, .inl (fun _ => 0))), (q2, .inl (cA 20, 10, .inl (fun _ => 0))), (q3, .inl (cA 20, 10, .inl (fun _ => 0))), (q4, .inl (cA 20, 10, .inl (fun _ => 0))), (q5, .inl (cA 20, 6, .inl (fun _ => 0))), (q6, .inl (cA 20, 6, .inl (fun _ => 0)))] := hD
  refine va_putF (D := D) (ci := 1) (v := .ref q6) (ty := .array .int) (C := RX1) (T := TX1) (N := 9) hx hb hts ju_1 tyX1 tyX1_ok nmX1 hown hK hP hD hS 0 rfl rfl 5 (by decide) (hts _ kw_159) (fun _ h9 => h9) rfl hin rfl (by decide +kernel) rfl rfl (Nat.le_of_ble_eq_true rfl) dX1_init_49 (fun H locs hP hD hS => ?_)
  have hP : va_P D vwCl [(h0, .inr (1, [.ref q1, .ref q2, .ref q3, .ref q4, .ref q5, .ref q6, .null, .int 0, .int 0])), (q1, .inl (cA 20, 10, .inl (fun _ => 0))), (q2, .inl (cA 20, 10, .inl (fun _ => 0))), (q3, .inl (cA 20, 10, .inl (fun _ => 0))), (q4, .inl (cA 20, 10, .inl (fun _ => 0))), (q5, .inl (cA 20, 6, .inl (fun _ => 0))), (q6, .inl (cA 20, 6, .inl (fun _ => 0)))] H := hP
  have hD : va_D A [(h0, .inr (1, [.ref q1, .ref q2, .ref q3, .ref q4, .ref q5, .ref q6, .null, .int 0, .int 0])), (q1, .inl (cA 20, 10, .inl (fun _ => 0))), (q2, .inl (cA 20, 10, .inl (fun _ => 0))), (q3, .inl (cA 20, 10, .inl (fun _ => 0))), (q4, .inl (cA 20, 10, .inl (fun _ => 0))), (q5, .inl (cA 20, 6, .inl (fun _ => 0))), (q6, .inl (cA 20, 6, .inl (fun _ => 0)))] := hD
  refine lv_aload_n hx hb dX1_init_52 rfl (lv_at hl 0 rfl) ?_
  refine lv_bipush (v := 8) hx hb dX1_init_53 (by decide) ?_
  refine k_newa (atype := .int) (ty := .int) (a0 := (8, .inl (fun _ => 0))) hx hb (hts _ kw_147) rfl hK hP hD hS hA 0 20 rfl (fun _ => rfl) (by decide) (by decide) (Nat.le_of_ble_eq_true rfl) (Nat.le_of_ble_eq_true rfl) (Nat.le_of_ble_eq_true rfl) dX1_init_55 (fun q7 H hP hD hS => ?_)
  have hP : va_P D vwCl [(h0, .inr (1, [.ref q1, .ref q2, .ref q3, .ref q4, .ref q5, .ref q6, .null, .int 0, .int 0])), (q1, .inl (cA 20, 10, .inl (fun _ => 0))), (q2, .inl (cA 20, 10, .inl (fun _ => 0))), (q3, .inl (cA 20, 10, .inl (fun _ => 0))), (q4, .inl (cA 20, 10, .inl (fun _ => 0))), (q5, .inl (cA 20, 6, .inl (fun _ => 0))), (q6, .inl (cA 20, 6, .inl (fun _ => 0))), (q7, .inl (cA 20, 8, .inl (fun _ => 0)))] H := hP
  have hD : va_D A [(h0, .inr (1, [.ref q1, .ref q2, .ref q3, .ref q4, .ref q5, .ref q6, .null, .int 0, .int 0])), (q1, .inl (cA 20, 10, .inl (fun _ => 0))), (q2, .inl (cA 20, 10, .inl (fun _ => 0))), (q3, .inl (cA 20, 10, .inl (fun _ => 0))), (q4, .inl (cA 20, 10, .inl (fun _ => 0))), (q5, .inl (cA 20, 6, .inl (fun _ => 0))), (q6, .inl (cA 20, 6, .inl (fun _ => 0))), (q7, .inl (cA 20, 8, .inl (fun _ => 0)))] := hD
  refine va_putF (D := D) (ci := 1) (v := .ref q7) (ty := .array .int) (C := RX1) (T := TX1) (N := 9) hx hb hts ju_1 tyX1 tyX1_ok nmX1 hown hK hP hD hS 0 rfl rfl 6 (by decide) (hts _ kw_160) (fun _ h9 => h9) rfl hin rfl (by decide +kernel) rfl rfl (Nat.le_of_ble_eq_true rfl) dX1_init_57 (fun H locs hP hD hS => ?_)
  have hP : va_P D vwCl [(h0, .inr (1, [.ref q1, .ref q2, .ref q3, .ref q4, .ref q5, .ref q6, .ref q7, .int 0, .int 0])), (q1, .inl (cA 20, 10, .inl (fun _ => 0))), (q2, .inl (cA 20, 10, .inl (fun _ => 0))), (q3, .inl (cA 20, 10, .inl (fun _ => 0))), (q4, .inl (cA 20, 10, .inl (fun _ => 0))), (q5, .inl (cA 20, 6, .inl (fun _ => 0))), (q6, .inl (cA 20, 6, .inl (fun _ => 0))), (q7, .inl (cA 20, 8, .inl (fun _ => 0)))] H := hP
  have hD : va_D A [(h0, .inr (1, [.ref q1, .ref q2, .ref q3, .ref q4, .ref q5, .ref q6, .ref q7, .int 0, .int 0])), (q1, .inl (cA 20, 10, .inl (fun _ => 0))), (q2, .inl (cA 20, 10, .inl (fun _ => 0))), (q3, .inl (cA 20, 10, .inl (fun _ => 0))), (q4, .inl (cA 20, 10, .inl (fun _ => 0))), (q5, .inl (cA 20, 6, .inl (fun _ => 0))), (q6, .inl (cA 20, 6, .inl (fun _ => 0))), (q7, .inl (cA 20, 8, .inl (fun _ => 0)))] := hD
  refine W.widen (k := 7) (n := 60) (Nat.le_of_ble_eq_true rfl) (Nat.le_of_ble_eq_true rfl) ?_
  exact W.vret hx hb hr (fun t ht hW => ⟨⟨[(h0, .inr (1, [.ref q1, .ref q2, .ref q3, .ref q4, .ref q5, .ref q6, .ref q7, .int 0, .int 0])), (q1, .inl (cA 20, 10, .inl (fun _ => 0))), (q2, .inl (cA 20, 10, .inl (fun _ => 0))), (q3, .inl (cA 20, 10, .inl (fun _ => 0))), (q4, .inl (cA 20, 10, .inl (fun _ => 0))), (q5, .inl (cA 20, 6, .inl (fun _ => 0))), (q6, .inl (cA 20, 6, .inl (fun _ => 0))), (q7, .inl (cA 20, 8, .inl (fun _ => 0)))], rfl, ⟨q1, q2, q3, q4, q5, q6, q7, rfl⟩, by rw [ht]; exact hP, hD⟩, hS.F ht⟩) hS.2.2 dX1_init_60
def pw_ci_X2 (cA : Nat → ClassId) (h0 : Nat) : va_W → Prop := fun w => ∃ q1 : Nat, w = [(h0, .inr (2, [.ref q1, .int 1, .int 9, .int 0])), (q1, .inl (cA 20, 8, .inl (fun j : Nat => Int32.ofInt (mu0 17 (j : Int)))))]
set_option maxHeartbeats 4000000 in
set_option maxRecDepth 100000 in
theorem ci_X2 (l : Launch) (D : va_G) (cA : Nat → ClassId) (h0 sz : Nat) : Met l yX2_init (.code yX2_init cX2_init 1 none :: jTs) ({ frames := 2, cells := 1, slots := 8, locals := 60 }) (va_Pc [.ref h0] (kPre D cA sz [(h0, .inr (2, [.null, .int 0, .int 0, .int 0]))])) (va_Qv (pw_ci_X2 cA h0) (kPost D (va_A [(h0, .inr (2, [.null, .int 0, .int 0, .int 0]))] sz)) (va_A [(h0, .inr (2, [.null, .int 0, .int 0, .int 0]))] sz)) 1 8 (va_A [(h0, .inr (2, [.null, .int 0, .int 0, .int 0]))] sz) := by
  refine Met.ofW (cc := cX2_init) (maxL := 1) (ret := none) (by decide) rfl ?_
  intro p e s m args below meth c s₁ B hml hv
  obtain ⟨rfl, hsz, hP, hK, hD0, hO, hN⟩ := hv
  have hx := B.exec
  have hb := B.bytes
  have hr := B.returns
  have hts0 := atoms_spec (ws := .code yX2_init cX2_init 1 none :: jTs) B.pre
  have hts : ∀ w ∈ jTs, w.before _ s = true := fun w hw => hts0 w (List.mem_cons_of_mem _ hw)
  have hown : s.vm.findClass RX2 = some m.cls := findClass_of_methodNamed B.named
  have hlocks := B.notSynchronized
  have hin : meth.name = "<init>" := (name_of_methodNamed B.named B.method).1
  subst hsz
  have hD := hD0.self (sz := s.heap.size)
  generalize hAe : va_A [(h0, .inr (2, [.null, .int 0, .int 0, .int 0]))] s.heap.size = A at hD ⊢
  have hA : ∀ q : Nat, s.heap.size ≤ q → A q := fun q h => by rw [← hAe]; exact Or.inr h
  have hS : va_S A s.heap s.heap [] := va_S.rf
  have hP : va_P D vwCl [(h0, .inr (2, [.null, .int 0, .int 0, .int 0]))] s.heap := hP
  have hl := lv_entry ([.ref h0]) (n := 1) (Nat.le_of_ble_eq_true rfl)
  rw [lg_entry_eq]
  generalize (lg_sl ([.ref h0]) ++ List.replicate (1 - (lg_sl ([.ref h0])).length) Slot.unset).toArray = ls at hl ⊢
  have hl : lv_has ls 1 [(0, .ref h0)] := hl
  have _ := hl
  refine lv_aload_n hx hb dX2_init_0 rfl (lv_at hl 0 rfl) ?_
  refine W.objInit hx hb hown (hts _ kw_231) (hts _ kw_132) (hts _ kw_133) rfl (by rw [hml]; exact hl.1) rfl dX2_init_1 (Nat.le_of_ble_eq_true rfl) (Nat.le_of_ble_eq_true rfl) ?_
  refine W.eq (g2 := F0 m 4 ls []) rfl ?_
  refine lv_aload_n hx hb dX2_init_4 rfl (lv_at hl 0 rfl) ?_
  refine lv_bipush (v := 8) hx hb dX2_init_5 (by decide) ?_
  refine k_newa (atype := .int) (ty := .int) (a0 := (8, .inl (fun _ => 0))) hx hb (hts _ kw_147) rfl hK hP hD hS hA 0 20 rfl (fun _ => rfl) (by decide) (by decide) (Nat.le_of_ble_eq_true rfl) (Nat.le_of_ble_eq_true rfl) (Nat.le_of_ble_eq_true rfl) dX2_init_7 (fun q1 H hP hD hS => ?_)
  have hP : va_P D vwCl [(h0, .inr (2, [.null, .int 0, .int 0, .int 0])), (q1, .inl (cA 20, 8, .inl (fun _ => 0)))] H := hP
  have hD : va_D A [(h0, .inr (2, [.null, .int 0, .int 0, .int 0])), (q1, .inl (cA 20, 8, .inl (fun _ => 0)))] := hD
  refine va_putF (D := D) (ci := 2) (v := .ref q1) (ty := .array .int) (C := RX2) (T := TX2) (N := 4) hx hb hts ju_2 tyX2 tyX2_ok nmX2 hown hK hP hD hS 0 rfl rfl 0 (by decide) (hts _ kw_235) (fun _ h9 => h9) rfl hin rfl (by decide +kernel) rfl rfl (Nat.le_of_ble_eq_true rfl) dX2_init_9 (fun H locs hP hD hS => ?_)
  have hP : va_P D vwCl [(h0, .inr (2, [.ref q1, .int 0, .int 0, .int 0])), (q1, .inl (cA 20, 8, .inl (fun _ => 0)))] H := hP
  have hD : va_D A [(h0, .inr (2, [.ref q1, .int 0, .int 0, .int 0])), (q1, .inl (cA 20, 8, .inl (fun _ => 0)))] := hD
  refine lv_aload_n hx hb dX2_init_12 rfl (lv_at hl 0 rfl) ?_
  refine lv_iconst (v := 1) hx hb dX2_init_13 (by decide) ?_
  refine va_put (D := D) (ci := 2) (v := .int 1) (ty := .int) (C := RX2) (T := TX2) (N := 4) hx hb hts ju_2 tyX2 tyX2_ok nmX2 hown hK hP hD hS 0 rfl rfl 1 (by decide) (hts _ kw_236) (fun _ h9 => h9) rfl (by decide +kernel) rfl rfl (Nat.le_of_ble_eq_true rfl) dX2_init_14 (fun H locs hP hD hS => ?_)
  have hP : va_P D vwCl [(h0, .inr (2, [.ref q1, .int 1, .int 0, .int 0])), (q1, .inl (cA 20, 8, .inl (fun _ => 0)))] H := hP
  have hD : va_D A [(h0, .inr (2, [.ref q1, .int 1, .int 0, .int 0])), (q1, .inl (cA 20, 8, .inl (fun _ => 0)))] := hD
  refine lv_aload_n hx hb dX2_init_17 rfl (lv_at hl 0 rfl) ?_
  refine lv_bipush (v := 9) hx hb dX2_init_18 (by decide) ?_
  refine va_put (D := D) (ci := 2) (v := .int 9) (ty := .int) (C := RX2) (T := TX2) (N := 4) hx hb hts ju_2 tyX2 tyX2_ok nmX2 hown hK hP hD hS 0 rfl rfl 2 (by decide) (hts _ kw_237) (fun _ h9 => h9) rfl (by decide +kernel) rfl rfl (Nat.le_of_ble_eq_true rfl) dX2_init_20 (fun H locs hP hD hS => ?_)
  have hP : va_P D vwCl [(h0, .inr (2, [.ref q1, .int 1, .int 9, .int 0])), (q1, .inl (cA 20, 8, .inl (fun _ => 0)))] H := hP
  have hD : va_D A [(h0, .inr (2, [.ref q1, .int 1, .int 9, .int 0])), (q1, .inl (cA 20, 8, .inl (fun _ => 0)))] := hD
  refine lv_aload_n hx hb dX2_init_23 rfl (lv_at hl 0 rfl) ?_
  refine va_get (D := D) (ci := 2) (v := .ref q1) (C := RX2) (T := TX2) (N := 4) hx hb hts ju_2 hown hK hP 0 rfl rfl 0 (by decide) (hts _ kw_235) (fun _ h9 => h9) rfl dX2_init_24 ?_
  refine lv_bipush (v := 99) hx hb dX2_init_27 (by decide) ?_
  refine k_stat (n := 2) (As := [.ref q1, .int 99]) (rest := []) (wr := [(h0, .inr (2, [.ref q1, .int 1, .int 9, .int 0]))]) hx hb hml hown hts hK hO hN hP hD hS hA (cz_fill l D cA q1) kw_234 kw_111 kw_232 kw_233 rfl rfl ⟨by decide, by decide, by decide +kernel⟩ ⟨Nat.le_of_ble_eq_true rfl, Nat.le_of_ble_eq_true rfl⟩ rfl hl.1 (Nat.le_of_ble_eq_true rfl) dX2_init_29 ⟨Nat.le_of_ble_eq_true rfl, Nat.le_of_ble_eq_true rfl⟩ (fun w H locs hw hP hD hS => ?_)
  subst hw
  have hP : va_P D vwCl [(h0, .inr (2, [.ref q1, .int 1, .int 9, .int 0])), (q1, .inl (cA 20, 8, .inl (fun j : Nat => Int32.ofInt (mu0 17 (j : Int)))))] H := hP
  have hD : va_D A [(h0, .inr (2, [.ref q1, .int 1, .int 9, .int 0])), (q1, .inl (cA 20, 8, .inl (fun j : Nat => Int32.ofInt (mu0 17 (j : Int)))))] := hD
  refine W.widen (k := 1) (n := 8) (Nat.le_of_ble_eq_true rfl) (Nat.le_of_ble_eq_true rfl) ?_
  exact W.vret hx hb hr (fun t ht hW => ⟨⟨[(h0, .inr (2, [.ref q1, .int 1, .int 9, .int 0])), (q1, .inl (cA 20, 8, .inl (fun j : Nat => Int32.ofInt (mu0 17 (j : Int)))))], rfl, ⟨q1, rfl⟩, by rw [ht]; exact hP, hD⟩, hS.F ht⟩) hS.2.2 dX2_init_32
def pw_ci_X3 (cA : Nat → ClassId) (h0 : Nat) : va_W → Prop := fun w => ∃ q1 : Nat, ∃ q2 : Nat, w = [(h0, .inr (3, [.ref q1, .ref q2])), (q1, .inl (cA 20, 11264, .inl (fun _ => 0))), (q2, .inl (cA 20, 10, .inl (fun _ => 0)))]
set_option maxHeartbeats 4000000 in
set_option maxRecDepth 100000 in
theorem ci_X3 (l : Launch) (D : va_G) (cA : Nat → ClassId) (h0 sz : Nat) : Met l yX3_init (.code yX3_init cX3_init 1 none :: jTs) ({ frames := 1, cells := 2, slots := 11274, locals := 20 }) (va_Pc [.ref h0] (kPre D cA sz [(h0, .inr (3, [.null, .null]))])) (va_Qv (pw_ci_X3 cA h0) (kPost D (va_A [(h0, .inr (3, [.null, .null]))] sz)) (va_A [(h0, .inr (3, [.null, .null]))] sz)) 2 11274 (va_A [(h0, .inr (3, [.null, .null]))] sz) := by
  refine Met.ofW (cc := cX3_init) (maxL := 1) (ret := none) (by decide) rfl ?_
  intro p e s m args below meth c s₁ B hml hv
  obtain ⟨rfl, hsz, hP, hK, hD0, hO, hN⟩ := hv
  have hx := B.exec
  have hb := B.bytes
  have hr := B.returns
  have hts0 := atoms_spec (ws := .code yX3_init cX3_init 1 none :: jTs) B.pre
  have hts : ∀ w ∈ jTs, w.before _ s = true := fun w hw => hts0 w (List.mem_cons_of_mem _ hw)
  have hown : s.vm.findClass RX3 = some m.cls := findClass_of_methodNamed B.named
  have hlocks := B.notSynchronized
  have hin : meth.name = "<init>" := (name_of_methodNamed B.named B.method).1
  subst hsz
  have hD := hD0.self (sz := s.heap.size)
  generalize hAe : va_A [(h0, .inr (3, [.null, .null]))] s.heap.size = A at hD ⊢
  have hA : ∀ q : Nat, s.heap.size ≤ q → A q := fun q h => by rw [← hAe]; exact Or.inr h
  have hS : va_S A s.heap s.heap [] := va_S.rf
  have hP : va_P D vwCl [(h0, .inr (3, [.null, .null]))] s.heap := hP
  have hl := lv_entry ([.ref h0]) (n := 1) (Nat.le_of_ble_eq_true rfl)
  rw [lg_entry_eq]
  generalize (lg_sl ([.ref h0]) ++ List.replicate (1 - (lg_sl ([.ref h0])).length) Slot.unset).toArray = ls at hl ⊢
  have hl : lv_has ls 1 [(0, .ref h0)] := hl
  have _ := hl
  refine lv_aload_n hx hb dX3_init_0 rfl (lv_at hl 0 rfl) ?_
  refine W.objInit hx hb hown (hts _ kw_362) (hts _ kw_132) (hts _ kw_133) rfl (by rw [hml]; exact hl.1) rfl dX3_init_1 (Nat.le_of_ble_eq_true rfl) (Nat.le_of_ble_eq_true rfl) ?_
  refine W.eq (g2 := F0 m 4 ls []) rfl ?_
  refine lv_aload_n hx hb dX3_init_4 rfl (lv_at hl 0 rfl) ?_
  refine lv_sipush (v := 11264) hx hb dX3_init_5 (by decide) ?_
  refine k_newa (atype := .int) (ty := .int) (a0 := (11264, .inl (fun _ => 0))) hx hb (hts _ kw_147) rfl hK hP hD hS hA 0 20 rfl (fun _ => rfl) (by decide) (by decide) (Nat.le_of_ble_eq_true rfl) (Nat.le_of_ble_eq_true rfl) (Nat.le_of_ble_eq_true rfl) dX3_init_8 (fun q1 H hP hD hS => ?_)
  have hP : va_P D vwCl [(h0, .inr (3, [.null, .null])), (q1, .inl (cA 20, 11264, .inl (fun _ => 0)))] H := hP
  have hD : va_D A [(h0, .inr (3, [.null, .null])), (q1, .inl (cA 20, 11264, .inl (fun _ => 0)))] := hD
  refine va_putF (D := D) (ci := 3) (v := .ref q1) (ty := .array .int) (C := RX3) (T := TX3) (N := 2) hx hb hts ju_3 tyX3 tyX3_ok nmX3 hown hK hP hD hS 0 rfl rfl 0 (by decide) (hts _ kw_363) (fun _ h9 => h9) rfl hin rfl (by decide +kernel) rfl rfl (Nat.le_of_ble_eq_true rfl) dX3_init_10 (fun H locs hP hD hS => ?_)
  have hP : va_P D vwCl [(h0, .inr (3, [.ref q1, .null])), (q1, .inl (cA 20, 11264, .inl (fun _ => 0)))] H := hP
  have hD : va_D A [(h0, .inr (3, [.ref q1, .null])), (q1, .inl (cA 20, 11264, .inl (fun _ => 0)))] := hD
  refine lv_aload_n hx hb dX3_init_13 rfl (lv_at hl 0 rfl) ?_
  refine lv_bipush (v := 10) hx hb dX3_init_14 (by decide) ?_
  refine k_newa (atype := .int) (ty := .int) (a0 := (10, .inl (fun _ => 0))) hx hb (hts _ kw_147) rfl hK hP hD hS hA 0 20 rfl (fun _ => rfl) (by decide) (by decide) (Nat.le_of_ble_eq_true rfl) (Nat.le_of_ble_eq_true rfl) (Nat.le_of_ble_eq_true rfl) dX3_init_16 (fun q2 H hP hD hS => ?_)
  have hP : va_P D vwCl [(h0, .inr (3, [.ref q1, .null])), (q1, .inl (cA 20, 11264, .inl (fun _ => 0))), (q2, .inl (cA 20, 10, .inl (fun _ => 0)))] H := hP
  have hD : va_D A [(h0, .inr (3, [.ref q1, .null])), (q1, .inl (cA 20, 11264, .inl (fun _ => 0))), (q2, .inl (cA 20, 10, .inl (fun _ => 0)))] := hD
  refine va_putF (D := D) (ci := 3) (v := .ref q2) (ty := .array .int) (C := RX3) (T := TX3) (N := 2) hx hb hts ju_3 tyX3 tyX3_ok nmX3 hown hK hP hD hS 0 rfl rfl 1 (by decide) (hts _ kw_364) (fun _ h9 => h9) rfl hin rfl (by decide +kernel) rfl rfl (Nat.le_of_ble_eq_true rfl) dX3_init_18 (fun H locs hP hD hS => ?_)
  have hP : va_P D vwCl [(h0, .inr (3, [.ref q1, .ref q2])), (q1, .inl (cA 20, 11264, .inl (fun _ => 0))), (q2, .inl (cA 20, 10, .inl (fun _ => 0)))] H := hP
  have hD : va_D A [(h0, .inr (3, [.ref q1, .ref q2])), (q1, .inl (cA 20, 11264, .inl (fun _ => 0))), (q2, .inl (cA 20, 10, .inl (fun _ => 0)))] := hD
  refine W.widen (k := 2) (n := 11274) (Nat.le_of_ble_eq_true rfl) (Nat.le_of_ble_eq_true rfl) ?_
  exact W.vret hx hb hr (fun t ht hW => ⟨⟨[(h0, .inr (3, [.ref q1, .ref q2])), (q1, .inl (cA 20, 11264, .inl (fun _ => 0))), (q2, .inl (cA 20, 10, .inl (fun _ => 0)))], rfl, ⟨q1, q2, rfl⟩, by rw [ht]; exact hP, hD⟩, hS.F ht⟩) hS.2.2 dX3_init_21
def pw_ci_X4_20 (cA : Nat → ClassId) (h0 : Nat) : va_W → Prop := fun w => ∃ q1 : Nat, ∃ q2 : Nat, w = [(h0, .inr (4, [.ref q2, .ref q1, .int 0])), (q1, .inl (cA 20, 9, .inl (fun _ => 0))), (q2, .inl (cA 20, 20, .inl (fun _ => 0)))]
set_option maxHeartbeats 4000000 in
set_option maxRecDepth 100000 in
theorem ci_X4_20 (l : Launch) (D : va_G) (cA : Nat → ClassId) (h0 sz : Nat) : Met l yX4_init (.code yX4_init cX4_init 2 none :: jTs) ({ frames := 1, cells := 2, slots := 29, locals := 20 }) (va_Pc [.ref h0, .int 20] (kPre D cA sz [(h0, .inr (4, [.null, .null, .int 0]))])) (va_Qv (pw_ci_X4_20 cA h0) (kPost D (va_A [(h0, .inr (4, [.null, .null, .int 0]))] sz)) (va_A [(h0, .inr (4, [.null, .null, .int 0]))] sz)) 2 29 (va_A [(h0, .inr (4, [.null, .null, .int 0]))] sz) := by
  refine Met.ofW (cc := cX4_init) (maxL := 2) (ret := none) (by decide) rfl ?_
  intro p e s m args below meth c s₁ B hml hv
  obtain ⟨rfl, hsz, hP, hK, hD0, hO, hN⟩ := hv
  have hx := B.exec
  have hb := B.bytes
  have hr := B.returns
  have hts0 := atoms_spec (ws := .code yX4_init cX4_init 2 none :: jTs) B.pre
  have hts : ∀ w ∈ jTs, w.before _ s = true := fun w hw => hts0 w (List.mem_cons_of_mem _ hw)
  have hown : s.vm.findClass RX4 = some m.cls := findClass_of_methodNamed B.named
  have hlocks := B.notSynchronized
  have hin : meth.name = "<init>" := (name_of_methodNamed B.named B.method).1
  subst hsz
  have hD := hD0.self (sz := s.heap.size)
  generalize hAe : va_A [(h0, .inr (4, [.null, .null, .int 0]))] s.heap.size = A at hD ⊢
  have hA : ∀ q : Nat, s.heap.size ≤ q → A q := fun q h => by rw [← hAe]; exact Or.inr h
  have hS : va_S A s.heap s.heap [] := va_S.rf
  have hP : va_P D vwCl [(h0, .inr (4, [.null, .null, .int 0]))] s.heap := hP
  have hl := lv_entry ([.ref h0, .int 20]) (n := 2) (Nat.le_of_ble_eq_true rfl)
  rw [lg_entry_eq]
  generalize (lg_sl ([.ref h0, .int 20]) ++ List.replicate (2 - (lg_sl ([.ref h0, .int 20])).length) Slot.unset).toArray = ls at hl ⊢
  have hl : lv_has ls 2 [(0, .ref h0), (1, .int 20)] := hl
  have _ := hl
  refine lv_aload_n hx hb dX4_init_0 rfl (lv_at hl 0 rfl) ?_
  refine W.objInit hx hb hown (hts _ kw_270) (hts _ kw_132) (hts _ kw_133) rfl (by rw [hml]; exact hl.1) rfl dX4_init_1 (Nat.le_of_ble_eq_true rfl) (Nat.le_of_ble_eq_true rfl) ?_
  refine W.eq (g2 := F0 m 4 ls []) rfl ?_
  refine lv_aload_n hx hb dX4_init_4 rfl (lv_at hl 0 rfl) ?_
  refine lv_bipush (v := 9) hx hb dX4_init_5 (by decide) ?_
  refine k_newa (atype := .int) (ty := .int) (a0 := (9, .inl (fun _ => 0))) hx hb (hts _ kw_147) rfl hK hP hD hS hA 0 20 rfl (fun _ => rfl) (by decide) (by decide) (Nat.le_of_ble_eq_true rfl) (Nat.le_of_ble_eq_true rfl) (Nat.le_of_ble_eq_true rfl) dX4_init_7 (fun q1 H hP hD hS => ?_)
  have hP : va_P D vwCl [(h0, .inr (4, [.null, .null, .int 0])), (q1, .inl (cA 20, 9, .inl (fun _ => 0)))] H := hP
  have hD : va_D A [(h0, .inr (4, [.null, .null, .int 0])), (q1, .inl (cA 20, 9, .inl (fun _ => 0)))] := hD
  refine va_putF (D := D) (ci := 4) (v := .ref q1) (ty := .array .int) (C := RX4) (T := TX4) (N := 3) hx hb hts ju_4 tyX4 tyX4_ok nmX4 hown hK hP hD hS 0 rfl rfl 1 (by decide) (hts _ kw_272) (fun _ h9 => h9) rfl hin rfl (by decide +kernel) rfl rfl (Nat.le_of_ble_eq_true rfl) dX4_init_9 (fun H locs hP hD hS => ?_)
  have hP : va_P D vwCl [(h0, .inr (4, [.null, .ref q1, .int 0])), (q1, .inl (cA 20, 9, .inl (fun _ => 0)))] H := hP
  have hD : va_D A [(h0, .inr (4, [.null, .ref q1, .int 0])), (q1, .inl (cA 20, 9, .inl (fun _ => 0)))] := hD
  refine lv_aload_n hx hb dX4_init_12 rfl (lv_at hl 0 rfl) ?_
  refine lv_iload_n hx hb dX4_init_13 rfl (lv_at hl 1 rfl) ?_
  refine lv_if_ge (tgt := 21) hx hb dX4_init_14 (by decide) (fun _ => ?_) (fun z => absurd (by decide) z)
  refine lv_iload_n hx hb dX4_init_21 rfl (lv_at hl 1 rfl) ?_
  refine k_newa (atype := .int) (ty := .int) (a0 := (20, .inl (fun _ => 0))) hx hb (hts _ kw_147) rfl hK hP hD hS hA 0 20 rfl (fun _ => rfl) (by decide) (by decide) (Nat.le_of_ble_eq_true rfl) (Nat.le_of_ble_eq_true rfl) (Nat.le_of_ble_eq_true rfl) dX4_init_22 (fun q2 H hP hD hS => ?_)
  have hP : va_P D vwCl [(h0, .inr (4, [.null, .ref q1, .int 0])), (q1, .inl (cA 20, 9, .inl (fun _ => 0))), (q2, .inl (cA 20, 20, .inl (fun _ => 0)))] H := hP
  have hD : va_D A [(h0, .inr (4, [.null, .ref q1, .int 0])), (q1, .inl (cA 20, 9, .inl (fun _ => 0))), (q2, .inl (cA 20, 20, .inl (fun _ => 0)))] := hD
  refine va_putF (D := D) (ci := 4) (v := .ref q2) (ty := .array .int) (C := RX4) (T := TX4) (N := 3) hx hb hts ju_4 tyX4 tyX4_ok nmX4 hown hK hP hD hS 0 rfl rfl 0 (by decide) (hts _ kw_271) (fun _ h9 => h9) rfl hin rfl (by decide +kernel) rfl rfl (Nat.le_of_ble_eq_true rfl) dX4_init_24 (fun H locs hP hD hS => ?_)
  have hP : va_P D vwCl [(h0, .inr (4, [.ref q2, .ref q1, .int 0])), (q1, .inl (cA 20, 9, .inl (fun _ => 0))), (q2, .inl (cA 20, 20, .inl (fun _ => 0)))] H := hP
  have hD : va_D A [(h0, .inr (4, [.ref q2, .ref q1, .int 0])), (q1, .inl (cA 20, 9, .inl (fun _ => 0))), (q2, .inl (cA 20, 20, .inl (fun _ => 0)))] := hD
  refine W.widen (k := 2) (n := 29) (Nat.le_of_ble_eq_true rfl) (Nat.le_of_ble_eq_true rfl) ?_
  exact W.vret hx hb hr (fun t ht hW => ⟨⟨[(h0, .inr (4, [.ref q2, .ref q1, .int 0])), (q1, .inl (cA 20, 9, .inl (fun _ => 0))), (q2, .inl (cA 20, 20, .inl (fun _ => 0)))], rfl, ⟨q1, q2, rfl⟩, by rw [ht]; exact hP, hD⟩, hS.F ht⟩) hS.2.2 dX4_init_27
def pw_ci_X4_10 (cA : Nat → ClassId) (h0 : Nat) : va_W → Prop := fun w => ∃ q1 : Nat, ∃ q2 : Nat, w = [(h0, .inr (4, [.ref q2, .ref q1, .int 0])), (q1, .inl (cA 20, 9, .inl (fun _ => 0))), (q2, .inl (cA 20, 10, .inl (fun _ => 0)))]
set_option maxHeartbeats 4000000 in
set_option maxRecDepth 100000 in
theorem ci_X4_10 (l : Launch) (D : va_G) (cA : Nat → ClassId) (h0 sz : Nat) : Met l yX4_init (.code yX4_init cX4_init 2 none :: jTs) ({ frames := 1, cells := 2, slots := 19, locals := 20 }) (va_Pc [.ref h0, .int 10] (kPre D cA sz [(h0, .inr (4, [.null, .null, .int 0]))])) (va_Qv (pw_ci_X4_10 cA h0) (kPost D (va_A [(h0, .inr (4, [.null, .null, .int 0]))] sz)) (va_A [(h0, .inr (4, [.null, .null, .int 0]))] sz)) 2 19 (va_A [(h0, .inr (4, [.null, .null, .int 0]))] sz) := by
  refine Met.ofW (cc := cX4_init) (maxL := 2) (ret := none) (by decide) rfl ?_
  intro p e s m args below meth c s₁ B hml hv
  obtain ⟨rfl, hsz, hP, hK, hD0, hO, hN⟩ := hv
  have hx := B.exec
  have hb := B.bytes
  have hr := B.returns
  have hts0 := atoms_spec (ws := .code yX4_init cX4_init 2 none :: jTs) B.pre
  have hts : ∀ w ∈ jTs, w.before _ s = true := fun w hw => hts0 w (List.mem_cons_of_mem _ hw)
  have hown : s.vm.findClass RX4 = some m.cls := findClass_of_methodNamed B.named
  have hlocks := B.notSynchronized
  have hin : meth.name = "<init>" := (name_of_methodNamed B.named B.method).1
  subst hsz
  have hD := hD0.self (sz := s.heap.size)
  generalize hAe : va_A [(h0, .inr (4, [.null, .null, .int 0]))] s.heap.size = A at hD ⊢
  have hA : ∀ q : Nat, s.heap.size ≤ q → A q := fun q h => by rw [← hAe]; exact Or.inr h
  have hS : va_S A s.heap s.heap [] := va_S.rf
  have hP : va_P D vwCl [(h0, .inr (4, [.null, .null, .int 0]))] s.heap := hP
  have hl := lv_entry ([.ref h0, .int 10]) (n := 2) (Nat.le_of_ble_eq_true rfl)
  rw [lg_entry_eq]
  generalize (lg_sl ([.ref h0, .int 10]) ++ List.replicate (2 - (lg_sl ([.ref h0, .int 10])).length) Slot.unset).toArray = ls at hl ⊢
  have hl : lv_has ls 2 [(0, .ref h0), (1, .int 10)] := hl
  have _ := hl
  refine lv_aload_n hx hb dX4_init_0 rfl (lv_at hl 0 rfl) ?_
  refine W.objInit hx hb hown (hts _ kw_270) (hts _ kw_132) (hts _ kw_133) rfl (by rw [hml]; exact hl.1) rfl dX4_init_1 (Nat.le_of_ble_eq_true rfl) (Nat.le_of_ble_eq_true rfl) ?_
  refine W.eq (g2 := F0 m 4 ls []) rfl ?_
  refine lv_aload_n hx hb dX4_init_4 rfl (lv_at hl 0 rfl) ?_
  refine lv_bipush (v := 9) hx hb dX4_init_5 (by decide) ?_
  refine k_newa (atype := .int) (ty := .int) (a0 := (9, .inl (fun _ => 0))) hx hb (hts _ kw_147) rfl hK hP hD hS hA 0 20 rfl (fun _ => rfl) (by decide) (by decide) (Nat.le_of_ble_eq_true rfl) (Nat.le_of_ble_eq_true rfl) (Nat.le_of_ble_eq_true rfl) dX4_init_7 (fun q1 H hP hD hS => ?_)
  have hP : va_P D vwCl [(h0, .inr (4, [.null, .null, .int 0])), (q1, .inl (cA 20, 9, .inl (fun _ => 0)))] H := hP
  have hD : va_D A [(h0, .inr (4, [.null, .null, .int 0])), (q1, .inl (cA 20, 9, .inl (fun _ => 0)))] := hD
  refine va_putF (D := D) (ci := 4) (v := .ref q1) (ty := .array .int) (C := RX4) (T := TX4) (N := 3) hx hb hts ju_4 tyX4 tyX4_ok nmX4 hown hK hP hD hS 0 rfl rfl 1 (by decide) (hts _ kw_272) (fun _ h9 => h9) rfl hin rfl (by decide +kernel) rfl rfl (Nat.le_of_ble_eq_true rfl) dX4_init_9 (fun H locs hP hD hS => ?_)
  have hP : va_P D vwCl [(h0, .inr (4, [.null, .ref q1, .int 0])), (q1, .inl (cA 20, 9, .inl (fun _ => 0)))] H := hP
  have hD : va_D A [(h0, .inr (4, [.null, .ref q1, .int 0])), (q1, .inl (cA 20, 9, .inl (fun _ => 0)))] := hD
  refine lv_aload_n hx hb dX4_init_12 rfl (lv_at hl 0 rfl) ?_
  refine lv_iload_n hx hb dX4_init_13 rfl (lv_at hl 1 rfl) ?_
  refine lv_if_ge (tgt := 21) hx hb dX4_init_14 (by decide) (fun _ => ?_) (fun z => absurd (by decide) z)
  refine lv_iload_n hx hb dX4_init_21 rfl (lv_at hl 1 rfl) ?_
  refine k_newa (atype := .int) (ty := .int) (a0 := (10, .inl (fun _ => 0))) hx hb (hts _ kw_147) rfl hK hP hD hS hA 0 20 rfl (fun _ => rfl) (by decide) (by decide) (Nat.le_of_ble_eq_true rfl) (Nat.le_of_ble_eq_true rfl) (Nat.le_of_ble_eq_true rfl) dX4_init_22 (fun q2 H hP hD hS => ?_)
  have hP : va_P D vwCl [(h0, .inr (4, [.null, .ref q1, .int 0])), (q1, .inl (cA 20, 9, .inl (fun _ => 0))), (q2, .inl (cA 20, 10, .inl (fun _ => 0)))] H := hP
  have hD : va_D A [(h0, .inr (4, [.null, .ref q1, .int 0])), (q1, .inl (cA 20, 9, .inl (fun _ => 0))), (q2, .inl (cA 20, 10, .inl (fun _ => 0)))] := hD
  refine va_putF (D := D) (ci := 4) (v := .ref q2) (ty := .array .int) (C := RX4) (T := TX4) (N := 3) hx hb hts ju_4 tyX4 tyX4_ok nmX4 hown hK hP hD hS 0 rfl rfl 0 (by decide) (hts _ kw_271) (fun _ h9 => h9) rfl hin rfl (by decide +kernel) rfl rfl (Nat.le_of_ble_eq_true rfl) dX4_init_24 (fun H locs hP hD hS => ?_)
  have hP : va_P D vwCl [(h0, .inr (4, [.ref q2, .ref q1, .int 0])), (q1, .inl (cA 20, 9, .inl (fun _ => 0))), (q2, .inl (cA 20, 10, .inl (fun _ => 0)))] H := hP
  have hD : va_D A [(h0, .inr (4, [.ref q2, .ref q1, .int 0])), (q1, .inl (cA 20, 9, .inl (fun _ => 0))), (q2, .inl (cA 20, 10, .inl (fun _ => 0)))] := hD
  refine W.widen (k := 2) (n := 19) (Nat.le_of_ble_eq_true rfl) (Nat.le_of_ble_eq_true rfl) ?_
  exact W.vret hx hb hr (fun t ht hW => ⟨⟨[(h0, .inr (4, [.ref q2, .ref q1, .int 0])), (q1, .inl (cA 20, 9, .inl (fun _ => 0))), (q2, .inl (cA 20, 10, .inl (fun _ => 0)))], rfl, ⟨q1, q2, rfl⟩, by rw [ht]; exact hP, hD⟩, hS.F ht⟩) hS.2.2 dX4_init_27
def pw_ci_X5 (cA : Nat → ClassId) (h0 : Nat) : va_W → Prop := fun w => ∃ q1 : Nat, ∃ q2 : Nat, ∃ q3 : Nat, ∃ q4 : Nat, ∃ r : Nat → Nat, w = [(h0, .inr (5, [.ref q1, .ref q2, .ref q3, .ref q4, .int 0, .int 0, .int 0, .int 0])), (q1, .inl (cA 27, 6, .inr (.inr (.inr (.inr (fun i => if i < 6 then some (r i) else none)))))), (r 0, .inl (cA 20, 10, .inl (fun _ => 0))), (r 1, .inl (cA 20, 10, .inl (fun _ => 0))), (r 2, .inl (cA 20, 10, .inl (fun _ => 0))), (r 3, .inl (cA 20, 10, .inl (fun _ => 0))), (r 4, .inl (cA 20, 10, .inl (fun _ => 0))), (r 5, .inl (cA 20, 10, .inl (fun _ => 0))), (q2, .inl (cA 20, 1024, .inl (fun _ => 0))), (q3, .inl (cA 20, 10, .inl (fun _ => 0))), (q4, .inl (cA 20, 10, .inl (fun _ => 0)))]
set_option maxHeartbeats 4000000 in
set_option maxRecDepth 100000 in
theorem ci_X5 (l : Launch) (hmna : MNA) (D : va_G) (cA : Nat → ClassId) (h0 sz : Nat) : Met l yX5_init (.code yX5_init cX5_init 1 none :: jTs) ({ frames := 1, cells := 10, slots := 1110, locals := 20 }) (va_Pc [.ref h0] (kPre D cA sz [(h0, .inr (5, [.null, .null, .null, .null, .int 0, .int 0, .int 0, .int 0]))])) (va_Qv (pw_ci_X5 cA h0) (kPost D (va_A [(h0, .inr (5, [.null, .null, .null, .null, .int 0, .int 0, .int 0, .int 0]))] sz)) (va_A [(h0, .inr (5, [.null, .null, .null, .null, .int 0, .int 0, .int 0, .int 0]))] sz)) 10 1110 (va_A [(h0, .inr (5, [.null, .null, .null, .null, .int 0, .int 0, .int 0, .int 0]))] sz) := by
  refine Met.ofW (cc := cX5_init) (maxL := 1) (ret := none) (by decide) rfl ?_
  intro p e s m args below meth c s₁ B hml hv
  obtain ⟨rfl, hsz, hP, hK, hD0, hO, hN⟩ := hv
  have hx := B.exec
  have hb := B.bytes
  have hr := B.returns
  have hts0 := atoms_spec (ws := .code yX5_init cX5_init 1 none :: jTs) B.pre
  have hts : ∀ w ∈ jTs, w.before _ s = true := fun w hw => hts0 w (List.mem_cons_of_mem _ hw)
  have hown : s.vm.findClass RX5 = some m.cls := findClass_of_methodNamed B.named
  have hlocks := B.notSynchronized
  have hin : meth.name = "<init>" := (name_of_methodNamed B.named B.method).1
  subst hsz
  have hD := hD0.self (sz := s.heap.size)
  generalize hAe : va_A [(h0, .inr (5, [.null, .null, .null, .null, .int 0, .int 0, .int 0, .int 0]))] s.heap.size = A at hD ⊢
  have hA : ∀ q : Nat, s.heap.size ≤ q → A q := fun q h => by rw [← hAe]; exact Or.inr h
  have hS : va_S A s.heap s.heap [] := va_S.rf
  have hP : va_P D vwCl [(h0, .inr (5, [.null, .null, .null, .null, .int 0, .int 0, .int 0, .int 0]))] s.heap := hP
  have hl := lv_entry ([.ref h0]) (n := 1) (Nat.le_of_ble_eq_true rfl)
  rw [lg_entry_eq]
  generalize (lg_sl ([.ref h0]) ++ List.replicate (1 - (lg_sl ([.ref h0])).length) Slot.unset).toArray = ls at hl ⊢
  have hl : lv_has ls 1 [(0, .ref h0)] := hl
  have _ := hl
  refine lv_aload_n hx hb dX5_init_0 rfl (lv_at hl 0 rfl) ?_
  refine W.objInit hx hb hown (hts _ kw_329) (hts _ kw_132) (hts _ kw_133) rfl (by rw [hml]; exact hl.1) rfl dX5_init_1 (Nat.le_of_ble_eq_true rfl) (Nat.le_of_ble_eq_true rfl) ?_
  refine W.eq (g2 := F0 m 4 ls []) rfl ?_
  refine lv_aload_n hx hb dX5_init_4 rfl (lv_at hl 0 rfl) ?_
  refine lv_bipush (v := 6) hx hb dX5_init_5 (by decide) ?_
  refine lv_bipush (v := 10) hx hb dX5_init_7 (by decide) ?_
  refine hmna _ _ _ _ _ _ _ _ _ _ _ _ _ _ _ _ _ _ D A cA _ _ _ _ _ hx hb hown (hts _ kw_330) hO.2.2.2 (hts _ kw_147) hK hP hD hS hA (Nat.le_of_ble_eq_true rfl) (Nat.le_of_ble_eq_true rfl) dX5_init_9 (fun q1 r H hP hD hS => ?_)
  have hP : va_P D vwCl [(h0, .inr (5, [.null, .null, .null, .null, .int 0, .int 0, .int 0, .int 0])), (q1, .inl (cA 27, 6, .inr (.inr (.inr (.inr (fun i => if i < 6 then some (r i) else none)))))), (r 0, .inl (cA 20, 10, .inl (fun _ => 0))), (r 1, .inl (cA 20, 10, .inl (fun _ => 0))), (r 2, .inl (cA 20, 10, .inl (fun _ => 0))), (r 3, .inl (cA 20, 10, .inl (fun _ => 0))), (r 4, .inl (cA 20, 10, .inl (fun _ => 0))), (r 5, .inl (cA 20, 10, .inl (fun _ => 0)))] H := hP
  have hD : va_D A [(h0, .inr (5, [.null, .null, .null, .null, .int 0, .int 0, .int 0, .int 0])), (q1, .inl (cA 27, 6, .inr (.inr (.inr (.inr (fun i => if i < 6 then some (r i) else none)))))), (r 0, .inl (cA 20, 10, .inl (fun _ => 0))), (r 1, .inl (cA 20, 10, .inl (fun _ => 0))), (r 2, .inl (cA 20, 10, .inl (fun _ => 0))), (r 3, .inl (cA 20, 10, .inl (fun _ => 0))), (r 4, .inl (cA 20, 10, .inl (fun _ => 0))), (r 5, .inl (cA 20, 10, .inl (fun _ => 0)))] := hD
  refine va_putF (D := D) (ci := 5) (v := .ref q1) (ty := .array (.array .int)) (C := RX5) (T := TX5) (N := 8) hx hb hts ju_5 tyX5 tyX5_ok nmX5 hown hK hP hD hS 0 rfl rfl 0 (by decide) (hts _ kw_332) (fun _ h9 => h9) rfl hin rfl (by decide +kernel) rfl rfl (Nat.le_of_ble_eq_true rfl) dX5_init_13 (fun H locs hP hD hS => ?_)
  have hP : va_P D vwCl [(h0, .inr (5, [.ref q1, .null, .null, .null, .int 0, .int 0, .int 0, .int 0])), (q1, .inl (cA 27, 6, .inr (.inr (.inr (.inr (fun i => if i < 6 then some (r i) else none)))))), (r 0, .inl (cA 20, 10, .inl (fun _ => 0))), (r 1, .inl (cA 20, 10, .inl (fun _ => 0))), (r 2, .inl (cA 20, 10, .inl (fun _ => 0))), (r 3, .inl (cA 20, 10, .inl (fun _ => 0))), (r 4, .inl (cA 20, 10, .inl (fun _ => 0))), (r 5, .inl (cA 20, 10, .inl (fun _ => 0)))] H := hP
  have hD : va_D A [(h0, .inr (5, [.ref q1, .null, .null, .null, .int 0, .int 0, .int 0, .int 0])), (q1, .inl (cA 27, 6, .inr (.inr (.inr (.inr (fun i => if i < 6 then some (r i) else none)))))), (r 0, .inl (cA 20, 10, .inl (fun _ => 0))), (r 1, .inl (cA 20, 10, .inl (fun _ => 0))), (r 2, .inl (cA 20, 10, .inl (fun _ => 0))), (r 3, .inl (cA 20, 10, .inl (fun _ => 0))), (r 4, .inl (cA 20, 10, .inl (fun _ => 0))), (r 5, .inl (cA 20, 10, .inl (fun _ => 0)))] := hD
  refine lv_aload_n hx hb dX5_init_16 rfl (lv_at hl 0 rfl) ?_
  refine lv_sipush (v := 1024) hx hb dX5_init_17 (by decide) ?_
  refine k_newa (atype := .int) (ty := .int) (a0 := (1024, .inl (fun _ => 0))) hx hb (hts _ kw_147) rfl hK hP hD hS hA 0 20 rfl (fun _ => rfl) (by decide) (by decide) (Nat.le_of_ble_eq_true rfl) (Nat.le_of_ble_eq_true rfl) (Nat.le_of_ble_eq_true rfl) dX5_init_20 (fun q2 H hP hD hS => ?_)
  have hP : va_P D vwCl [(h0, .inr (5, [.ref q1, .null, .null, .null, .int 0, .int 0, .int 0, .int 0])), (q1, .inl (cA 27, 6, .inr (.inr (.inr (.inr (fun i => if i < 6 then some (r i) else none)))))), (r 0, .inl (cA 20, 10, .inl (fun _ => 0))), (r 1, .inl (cA 20, 10, .inl (fun _ => 0))), (r 2, .inl (cA 20, 10, .inl (fun _ => 0))), (r 3, .inl (cA 20, 10, .inl (fun _ => 0))), (r 4, .inl (cA 20, 10, .inl (fun _ => 0))), (r 5, .inl (cA 20, 10, .inl (fun _ => 0))), (q2, .inl (cA 20, 1024, .inl (fun _ => 0)))] H := hP
  have hD : va_D A [(h0, .inr (5, [.ref q1, .null, .null, .null, .int 0, .int 0, .int 0, .int 0])), (q1, .inl (cA 27, 6, .inr (.inr (.inr (.inr (fun i => if i < 6 then some (r i) else none)))))), (r 0, .inl (cA 20, 10, .inl (fun _ => 0))), (r 1, .inl (cA 20, 10, .inl (fun _ => 0))), (r 2, .inl (cA 20, 10, .inl (fun _ => 0))), (r 3, .inl (cA 20, 10, .inl (fun _ => 0))), (r 4, .inl (cA 20, 10, .inl (fun _ => 0))), (r 5, .inl (cA 20, 10, .inl (fun _ => 0))), (q2, .inl (cA 20, 1024, .inl (fun _ => 0)))] := hD
  refine va_putF (D := D) (ci := 5) (v := .ref q2) (ty := .array .int) (C := RX5) (T := TX5) (N := 8) hx hb hts ju_5 tyX5 tyX5_ok nmX5 hown hK hP hD hS 0 rfl rfl 1 (by decide) (hts _ kw_333) (fun _ h9 => h9) rfl hin rfl (by decide +kernel) rfl rfl (Nat.le_of_ble_eq_true rfl) dX5_init_22 (fun H locs hP hD hS => ?_)
  have hP : va_P D vwCl [(h0, .inr (5, [.ref q1, .ref q2, .null, .null, .int 0, .int 0, .int 0, .int 0])), (q1, .inl (cA 27, 6, .inr (.inr (.inr (.inr (fun i => if i < 6 then some (r i) else none)))))), (r 0, .inl (cA 20, 10, .inl (fun _ => 0))), (r 1, .inl (cA 20, 10, .inl (fun _ => 0))), (r 2, .inl (cA 20, 10, .inl (fun _ => 0))), (r 3, .inl (cA 20, 10, .inl (fun _ => 0))), (r 4, .inl (cA 20, 10, .inl (fun _ => 0))), (r 5, .inl (cA 20, 10, .inl (fun _ => 0))), (q2, .inl (cA 20, 1024, .inl (fun _ => 0)))] H := hP
  have hD : va_D A [(h0, .inr (5, [.ref q1, .ref q2, .null, .null, .int 0, .int 0, .int 0, .int 0])), (q1, .inl (cA 27, 6, .inr (.inr (.inr (.inr (fun i => if i < 6 then some (r i) else none)))))), (r 0, .inl (cA 20, 10, .inl (fun _ => 0))), (r 1, .inl (cA 20, 10, .inl (fun _ => 0))), (r 2, .inl (cA 20, 10, .inl (fun _ => 0))), (r 3, .inl (cA 20, 10, .inl (fun _ => 0))), (r 4, .inl (cA 20, 10, .inl (fun _ => 0))), (r 5, .inl (cA 20, 10, .inl (fun _ => 0))), (q2, .inl (cA 20, 1024, .inl (fun _ => 0)))] := hD
  refine lv_aload_n hx hb dX5_init_25 rfl (lv_at hl 0 rfl) ?_
  refine lv_bipush (v := 10) hx hb dX5_init_26 (by decide) ?_
  refine k_newa (atype := .int) (ty := .int) (a0 := (10, .inl (fun _ => 0))) hx hb (hts _ kw_147) rfl hK hP hD hS hA 0 20 rfl (fun _ => rfl) (by decide) (by decide) (Nat.le_of_ble_eq_true rfl) (Nat.le_of_ble_eq_true rfl) (Nat.le_of_ble_eq_true rfl) dX5_init_28 (fun q3 H hP hD hS => ?_)
  have hP : va_P D vwCl [(h0, .inr (5, [.ref q1, .ref q2, .null, .null, .int 0, .int 0, .int 0, .int 0])), (q1, .inl (cA 27, 6, .inr (.inr (.inr (.inr (fun i => if i < 6 then some (r i) else none)))))), (r 0, .inl (cA 20, 10, .inl (fun _ => 0))), (r 1, .inl (cA 20, 10, .inl (fun _ => 0))), (r 2, .inl (cA 20, 10, .inl (fun _ => 0))), (r 3, .inl (cA 20, 10, .inl (fun _ => 0))), (r 4, .inl (cA 20, 10, .inl (fun _ => 0))), (r 5, .inl (cA 20, 10, .inl (fun _ => 0))), (q2, .inl (cA 20, 1024, .inl (fun _ => 0))), (q3, .inl (cA 20, 10, .inl (fun _ => 0)))] H := hP
  have hD : va_D A [(h0, .inr (5, [.ref q1, .ref q2, .null, .null, .int 0, .int 0, .int 0, .int 0])), (q1, .inl (cA 27, 6, .inr (.inr (.inr (.inr (fun i => if i < 6 then some (r i) else none)))))), (r 0, .inl (cA 20, 10, .inl (fun _ => 0))), (r 1, .inl (cA 20, 10, .inl (fun _ => 0))), (r 2, .inl (cA 20, 10, .inl (fun _ => 0))), (r 3, .inl (cA 20, 10, .inl (fun _ => 0))), (r 4, .inl (cA 20, 10, .inl (fun _ => 0))), (r 5, .inl (cA 20, 10, .inl (fun _ => 0))), (q2, .inl (cA 20, 1024, .inl (fun _ => 0))), (q3, .inl (cA 20, 10, .inl (fun _ => 0)))] := hD
  refine va_putF (D := D) (ci := 5) (v := .ref q3) (ty := .array .int) (C := RX5) (T := TX5) (N := 8) hx hb hts ju_5 tyX5 tyX5_ok nmX5 hown hK hP hD hS 0 rfl rfl 2 (by decide) (hts _ kw_334) (fun _ h9 => h9) rfl hin rfl (by decide +kernel) rfl rfl (Nat.le_of_ble_eq_true rfl) dX5_init_30 (fun H locs hP hD hS => ?_)
  have hP : va_P D vwCl [(h0, .inr (5, [.ref q1, .ref q2, .ref q3, .null, .int 0, .int 0, .int 0, .int 0])), (q1, .inl (cA 27, 6, .inr (.inr (.inr (.inr (fun i => if i < 6 then some (r i) else none)))))), (r 0, .inl (cA 20, 10, .inl (fun _ => 0))), (r 1, .inl (cA 20, 10, .inl (fun _ => 0))), (r 2, .inl (cA 20, 10, .inl (fun _ => 0))), (r 3, .inl (cA 20, 10, .inl (fun _ => 0))), (r 4, .inl (cA 20, 10, .inl (fun _ => 0))), (r 5, .inl (cA 20, 10, .inl (fun _ => 0))), (q2, .inl (cA 20, 1024, .inl (fun _ => 0))), (q3, .inl (cA 20, 10, .inl (fun _ => 0)))] H := hP
  have hD : va_D A [(h0, .inr (5, [.ref q1, .ref q2, .ref q3, .null, .int 0, .int 0, .int 0, .int 0])), (q1, .inl (cA 27, 6, .inr (.inr (.inr (.inr (fun i => if i < 6 then some (r i) else none)))))), (r 0, .inl (cA 20, 10, .inl (fun _ => 0))), (r 1, .inl (cA 20, 10, .inl (fun _ => 0))), (r 2, .inl (cA 20, 10, .inl (fun _ => 0))), (r 3, .inl (cA 20, 10, .inl (fun _ => 0))), (r 4, .inl (cA 20, 10, .inl (fun _ => 0))), (r 5, .inl (cA 20, 10, .inl (fun _ => 0))), (q2, .inl (cA 20, 1024, .inl (fun _ => 0))), (q3, .inl (cA 20, 10, .inl (fun _ => 0)))] := hD
  refine lv_aload_n hx hb dX5_init_33 rfl (lv_at hl 0 rfl) ?_
  refine lv_bipush (v := 10) hx hb dX5_init_34 (by decide) ?_
  refine k_newa (atype := .int) (ty := .int) (a0 := (10, .inl (fun _ => 0))) hx hb (hts _ kw_147) rfl hK hP hD hS hA 0 20 rfl (fun _ => rfl) (by decide) (by decide) (Nat.le_of_ble_eq_true rfl) (Nat.le_of_ble_eq_true rfl) (Nat.le_of_ble_eq_true rfl) dX5_init_36 (fun q4 H hP hD hS => ?_)
  have hP : va_P D vwCl [(h0, .inr (5, [.ref q1, .ref q2, .ref q3, .null, .int 0, .int 0, .int 0, .int 0])), (q1, .inl (cA 27, 6, .inr (.inr (.inr (.inr (fun i => if i < 6 then some (r i) else none)))))), (r 0, .inl (cA 20, 10, .inl (fun _ => 0))), (r 1, .inl (cA 20, 10, .inl (fun _ => 0))), (r 2, .inl (cA 20, 10, .inl (fun _ => 0))), (r 3, .inl (cA 20, 10, .inl (fun _ => 0))), (r 4, .inl (cA 20, 10, .inl (fun _ => 0))), (r 5, .inl (cA 20, 10, .inl (fun _ => 0))), (q2, .inl (cA 20, 1024, .inl (fun _ => 0))), (q3, .inl (cA 20, 10, .inl (fun _ => 0))), (q4, .inl (cA 20, 10, .inl (fun _ => 0)))] H := hP
  have hD : va_D A [(h0, .inr (5, [.ref q1, .ref q2, .ref q3, .null, .int 0, .int 0, .int 0, .int 0])), (q1, .inl (cA 27, 6, .inr (.inr (.inr (.inr (fun i => if i < 6 then some (r i) else none)))))), (r 0, .inl (cA 20, 10, .inl (fun _ => 0))), (r 1, .inl (cA 20, 10, .inl (fun _ => 0))), (r 2, .inl (cA 20, 10, .inl (fun _ => 0))), (r 3, .inl (cA 20, 10, .inl (fun _ => 0))), (r 4, .inl (cA 20, 10, .inl (fun _ => 0))), (r 5, .inl (cA 20, 10, .inl (fun _ => 0))), (q2, .inl (cA 20, 1024, .inl (fun _ => 0))), (q3, .inl (cA 20, 10, .inl (fun _ => 0))), (q4, .inl (cA 20, 10, .inl (fun _ => 0)))] := hD
  refine va_putF (D := D) (ci := 5) (v := .ref q4) (ty := .array .int) (C := RX5) (T := TX5) (N := 8) hx hb hts ju_5 tyX5 tyX5_ok nmX5 hown hK hP hD hS 0 rfl rfl 3 (by decide) (hts _ kw_335) (fun _ h9 => h9) rfl hin rfl (by decide +kernel) rfl rfl (Nat.le_of_ble_eq_true rfl) dX5_init_38 (fun H locs hP hD hS => ?_)
  have hP : va_P D vwCl [(h0, .inr (5, [.ref q1, .ref q2, .ref q3, .ref q4, .int 0, .int 0, .int 0, .int 0])), (q1, .inl (cA 27, 6, .inr (.inr (.inr (.inr (fun i => if i < 6 then some (r i) else none)))))), (r 0, .inl (cA 20, 10, .inl (fun _ => 0))), (r 1, .inl (cA 20, 10, .inl (fun _ => 0))), (r 2, .inl (cA 20, 10, .inl (fun _ => 0))), (r 3, .inl (cA 20, 10, .inl (fun _ => 0))), (r 4, .inl (cA 20, 10, .inl (fun _ => 0))), (r 5, .inl (cA 20, 10, .inl (fun _ => 0))), (q2, .inl (cA 20, 1024, .inl (fun _ => 0))), (q3, .inl (cA 20, 10, .inl (fun _ => 0))), (q4, .inl (cA 20, 10, .inl (fun _ => 0)))] H := hP
  have hD : va_D A [(h0, .inr (5, [.ref q1, .ref q2, .ref q3, .ref q4, .int 0, .int 0, .int 0, .int 0])), (q1, .inl (cA 27, 6, .inr (.inr (.inr (.inr (fun i => if i < 6 then some (r i) else none)))))), (r 0, .inl (cA 20, 10, .inl (fun _ => 0))), (r 1, .inl (cA 20, 10, .inl (fun _ => 0))), (r 2, .inl (cA 20, 10, .inl (fun _ => 0))), (r 3, .inl (cA 20, 10, .inl (fun _ => 0))), (r 4, .inl (cA 20, 10, .inl (fun _ => 0))), (r 5, .inl (cA 20, 10, .inl (fun _ => 0))), (q2, .inl (cA 20, 1024, .inl (fun _ => 0))), (q3, .inl (cA 20, 10, .inl (fun _ => 0))), (q4, .inl (cA 20, 10, .inl (fun _ => 0)))] := hD
  refine W.widen (k := 10) (n := 1110) (Nat.le_of_ble_eq_true rfl) (Nat.le_of_ble_eq_true rfl) ?_
  exact W.vret hx hb hr (fun t ht hW => ⟨⟨[(h0, .inr (5, [.ref q1, .ref q2, .ref q3, .ref q4, .int 0, .int 0, .int 0, .int 0])), (q1, .inl (cA 27, 6, .inr (.inr (.inr (.inr (fun i => if i < 6 then some (r i) else none)))))), (r 0, .inl (cA 20, 10, .inl (fun _ => 0))), (r 1, .inl (cA 20, 10, .inl (fun _ => 0))), (r 2, .inl (cA 20, 10, .inl (fun _ => 0))), (r 3, .inl (cA 20, 10, .inl (fun _ => 0))), (r 4, .inl (cA 20, 10, .inl (fun _ => 0))), (r 5, .inl (cA 20, 10, .inl (fun _ => 0))), (q2, .inl (cA 20, 1024, .inl (fun _ => 0))), (q3, .inl (cA 20, 10, .inl (fun _ => 0))), (q4, .inl (cA 20, 10, .inl (fun _ => 0)))], rfl, ⟨q1, q2, q3, q4, r, rfl⟩, by rw [ht]; exact hP, hD⟩, hS.F ht⟩) hS.2.2 dX5_init_41
def pw_ci_X6 (cA : Nat → ClassId) (h0 : Nat) : va_W → Prop := fun w => w = [(h0, .inr (6, [.int 0, .int 0, .int 0]))]
set_option maxHeartbeats 4000000 in
set_option maxRecDepth 100000 in
theorem ci_X6 (l : Launch) (D : va_G) (cA : Nat → ClassId) (h0 sz : Nat) : Met l yX6_init (.code yX6_init cX6_init 1 none :: jTs) ({ frames := 1, cells := 0, slots := 0, locals := 20 }) (va_Pc [.ref h0] (kPre D cA sz [(h0, .inr (6, [.int 0, .int 0, .int 0]))])) (va_Qv (pw_ci_X6 cA h0) (kPost D (va_A [(h0, .inr (6, [.int 0, .int 0, .int 0]))] sz)) (va_A [(h0, .inr (6, [.int 0, .int 0, .int 0]))] sz)) 0 0 (va_A [(h0, .inr (6, [.int 0, .int 0, .int 0]))] sz) := by
  refine Met.ofW (cc := cX6_init) (maxL := 1) (ret := none) (by decide) rfl ?_
  intro p e s m args below meth c s₁ B hml hv
  obtain ⟨rfl, hsz, hP, hK, hD0, hO, hN⟩ := hv
  have hx := B.exec
  have hb := B.bytes
  have hr := B.returns
  have hts0 := atoms_spec (ws := .code yX6_init cX6_init 1 none :: jTs) B.pre
  have hts : ∀ w ∈ jTs, w.before _ s = true := fun w hw => hts0 w (List.mem_cons_of_mem _ hw)
  have hown : s.vm.findClass RX6 = some m.cls := findClass_of_methodNamed B.named
  have hlocks := B.notSynchronized
  have hin : meth.name = "<init>" := (name_of_methodNamed B.named B.method).1
  subst hsz
  have hD := hD0.self (sz := s.heap.size)
  generalize hAe : va_A [(h0, .inr (6, [.int 0, .int 0, .int 0]))] s.heap.size = A at hD ⊢
  have hA : ∀ q : Nat, s.heap.size ≤ q → A q := fun q h => by rw [← hAe]; exact Or.inr h
  have hS : va_S A s.heap s.heap [] := va_S.rf
  have hP : va_P D vwCl [(h0, .inr (6, [.int 0, .int 0, .int 0]))] s.heap := hP
  have hl := lv_entry ([.ref h0]) (n := 1) (Nat.le_of_ble_eq_true rfl)
  rw [lg_entry_eq]
  generalize (lg_sl ([.ref h0]) ++ List.replicate (1 - (lg_sl ([.ref h0])).length) Slot.unset).toArray = ls at hl ⊢
  have hl : lv_has ls 1 [(0, .ref h0)] := hl
  have _ := hl
  refine lv_aload_n hx hb dX6_init_0 rfl (lv_at hl 0 rfl) ?_
  refine W.objInit hx hb hown (hts _ kw_187) (hts _ kw_132) (hts _ kw_133) rfl (by rw [hml]; exact hl.1) rfl dX6_init_1 (Nat.le_of_ble_eq_true rfl) (Nat.le_of_ble_eq_true rfl) ?_
  refine W.eq (g2 := F0 m 4 ls []) rfl ?_
  refine W.widen (k := 0) (n := 0) (Nat.le_of_ble_eq_true rfl) (Nat.le_of_ble_eq_true rfl) ?_
  exact W.vret hx hb hr (fun t ht hW => ⟨⟨[(h0, .inr (6, [.int 0, .int 0, .int 0]))], rfl, rfl, by rw [ht]; exact hP, hD⟩, hS.F ht⟩) hS.2.2 dX6_init_4
def pw_ci_X7 (cA : Nat → ClassId) (h0 : Nat) : va_W → Prop := fun w => ∃ q1 : Nat, w = [(h0, .inr (7, [.ref q1, .int 0])), (q1, .inl (cA 20, 20, .inl (fun _ => 0)))]
set_option maxHeartbeats 4000000 in
set_option maxRecDepth 100000 in
theorem ci_X7 (l : Launch) (D : va_G) (cA : Nat → ClassId) (h0 sz : Nat) : Met l yX7_init (.code yX7_init cX7_init 1 none :: jTs) ({ frames := 1, cells := 1, slots := 20, locals := 20 }) (va_Pc [.ref h0] (kPre D cA sz [(h0, .inr (7, [.null, .int 0]))])) (va_Qv (pw_ci_X7 cA h0) (kPost D (va_A [(h0, .inr (7, [.null, .int 0]))] sz)) (va_A [(h0, .inr (7, [.null, .int 0]))] sz)) 1 20 (va_A [(h0, .inr (7, [.null, .int 0]))] sz) := by
  refine Met.ofW (cc := cX7_init) (maxL := 1) (ret := none) (by decide) rfl ?_
  intro p e s m args below meth c s₁ B hml hv
  obtain ⟨rfl, hsz, hP, hK, hD0, hO, hN⟩ := hv
  have hx := B.exec
  have hb := B.bytes
  have hr := B.returns
  have hts0 := atoms_spec (ws := .code yX7_init cX7_init 1 none :: jTs) B.pre
  have hts : ∀ w ∈ jTs, w.before _ s = true := fun w hw => hts0 w (List.mem_cons_of_mem _ hw)
  have hown : s.vm.findClass RX7 = some m.cls := findClass_of_methodNamed B.named
  have hlocks := B.notSynchronized
  have hin : meth.name = "<init>" := (name_of_methodNamed B.named B.method).1
  subst hsz
  have hD := hD0.self (sz := s.heap.size)
  generalize hAe : va_A [(h0, .inr (7, [.null, .int 0]))] s.heap.size = A at hD ⊢
  have hA : ∀ q : Nat, s.heap.size ≤ q → A q := fun q h => by rw [← hAe]; exact Or.inr h
  have hS : va_S A s.heap s.heap [] := va_S.rf
  have hP : va_P D vwCl [(h0, .inr (7, [.null, .int 0]))] s.heap := hP
  have hl := lv_entry ([.ref h0]) (n := 1) (Nat.le_of_ble_eq_true rfl)
  rw [lg_entry_eq]
  generalize (lg_sl ([.ref h0]) ++ List.replicate (1 - (lg_sl ([.ref h0])).length) Slot.unset).toArray = ls at hl ⊢
  have hl : lv_has ls 1 [(0, .ref h0)] := hl
  have _ := hl
  refine lv_aload_n hx hb dX7_init_0 rfl (lv_at hl 0 rfl) ?_
  refine W.objInit hx hb hown (hts _ kw_375) (hts _ kw_132) (hts _ kw_133) rfl (by rw [hml]; exact hl.1) rfl dX7_init_1 (Nat.le_of_ble_eq_true rfl) (Nat.le_of_ble_eq_true rfl) ?_
  refine W.eq (g2 := F0 m 4 ls []) rfl ?_
  refine lv_aload_n hx hb dX7_init_4 rfl (lv_at hl 0 rfl) ?_
  refine lv_bipush (v := 20) hx hb dX7_init_5 (by decide) ?_
  refine k_newa (atype := .int) (ty := .int) (a0 := (20, .inl (fun _ => 0))) hx hb (hts _ kw_147) rfl hK hP hD hS hA 0 20 rfl (fun _ => rfl) (by decide) (by decide) (Nat.le_of_ble_eq_true rfl) (Nat.le_of_ble_eq_true rfl) (Nat.le_of_ble_eq_true rfl) dX7_init_7 (fun q1 H hP hD hS => ?_)
  have hP : va_P D vwCl [(h0, .inr (7, [.null, .int 0])), (q1, .inl (cA 20, 20, .inl (fun _ => 0)))] H := hP
  have hD : va_D A [(h0, .inr (7, [.null, .int 0])), (q1, .inl (cA 20, 20, .inl (fun _ => 0)))] := hD
  refine va_putF (D := D) (ci := 7) (v := .ref q1) (ty := .array .int) (C := RX7) (T := TX7) (N := 2) hx hb hts ju_7 tyX7 tyX7_ok nmX7 hown hK hP hD hS 0 rfl rfl 0 (by decide) (hts _ kw_376) (fun _ h9 => h9) rfl hin rfl (by decide +kernel) rfl rfl (Nat.le_of_ble_eq_true rfl) dX7_init_9 (fun H locs hP hD hS => ?_)
  have hP : va_P D vwCl [(h0, .inr (7, [.ref q1, .int 0])), (q1, .inl (cA 20, 20, .inl (fun _ => 0)))] H := hP
  have hD : va_D A [(h0, .inr (7, [.ref q1, .int 0])), (q1, .inl (cA 20, 20, .inl (fun _ => 0)))] := hD
  refine W.widen (k := 1) (n := 20) (Nat.le_of_ble_eq_true rfl) (Nat.le_of_ble_eq_true rfl) ?_
  exact W.vret hx hb hr (fun t ht hW => ⟨⟨[(h0, .inr (7, [.ref q1, .int 0])), (q1, .inl (cA 20, 20, .inl (fun _ => 0)))], rfl, ⟨q1, rfl⟩, by rw [ht]; exact hP, hD⟩, hS.F ht⟩) hS.2.2 dX7_init_12
def pw_ci_X8 (cA : Nat → ClassId) (h0 : Nat) : va_W → Prop := fun w => ∃ q1 : Nat, ∃ q2 : Nat, ∃ q3 : Nat, ∃ q4 : Nat, ∃ q5 : Nat, ∃ q6 : Nat, w = [(h0, .inr (8, [.ref q1, .ref q2, .ref q3, .ref q4, .ref q5, .ref q6, .int 0, .int 0, .int 0, .int 0, .int 0])), (q1, .inl (cA 22, 1024, .inl (fun _ => 0))), (q2, .inl (cA 20, 1024, .inl (fun _ => 0))), (q3, .inl (cA 20, 11, .inl (fun _ => 0))), (q4, .inl (cA 20, 10, .inl (fun _ => 0))), (q5, .inl (cA 20, 8, .inl (fun _ => 0))), (q6, .inl (cA 20, 8, .inl (fun _ => 0)))]
set_option maxHeartbeats 4000000 in
set_option maxRecDepth 100000 in
theorem ci_X8 (l : Launch) (D : va_G) (cA : Nat → ClassId) (h0 sz : Nat) : Met l yX8_init (.code yX8_init cX8_init 1 none :: jTs) ({ frames := 1, cells := 6, slots := 2085, locals := 20 }) (va_Pc [.ref h0] (kPre D cA sz [(h0, .inr (8, [.null, .null, .null, .null, .null, .null, .int 0, .int 0, .int 0, .int 0, .int 0]))])) (va_Qv (pw_ci_X8 cA h0) (kPost D (va_A [(h0, .inr (8, [.null, .null, .null, .null, .null, .null, .int 0, .int 0, .int 0, .int 0, .int 0]))] sz)) (va_A [(h0, .inr (8, [.null, .null, .null, .null, .null, .null, .int 0, .int 0, .int 0, .int 0, .int 0]))] sz)) 6 2085 (va_A [(h0, .inr (8, [.null, .null, .null, .null, .null, .null, .int 0, .int 0, .int 0, .int 0, .int 0]))] sz) := by
  refine Met.ofW (cc := cX8_init) (maxL := 1) (ret := none) (by decide) rfl ?_
  intro p e s m args below meth c s₁ B hml hv
  obtain ⟨rfl, hsz, hP, hK, hD0, hO, hN⟩ := hv
  have hx := B.exec
  have hb := B.bytes
  have hr := B.returns
  have hts0 := atoms_spec (ws := .code yX8_init cX8_init 1 none :: jTs) B.pre
  have hts : ∀ w ∈ jTs, w.before _ s = true := fun w hw => hts0 w (List.mem_cons_of_mem _ hw)
  have hown : s.vm.findClass RX8 = some m.cls := findClass_of_methodNamed B.named
  have hlocks := B.notSynchronized
  have hin : meth.name = "<init>" := (name_of_methodNamed B.named B.method).1
  subst hsz
  have hD := hD0.self (sz := s.heap.size)
  generalize hAe : va_A [(h0, .inr (8, [.null, .null, .null, .null, .null, .null, .int 0, .int 0, .int 0, .int 0, .int 0]))] s.heap.size = A at hD ⊢
  have hA : ∀ q : Nat, s.heap.size ≤ q → A q := fun q h => by rw [← hAe]; exact Or.inr h
  have hS : va_S A s.heap s.heap [] := va_S.rf
  have hP : va_P D vwCl [(h0, .inr (8, [.null, .null, .null, .null, .null, .null, .int 0, .int 0, .int 0, .int 0, .int 0]))] s.heap := hP
  have hl := lv_entry ([.ref h0]) (n := 1) (Nat.le_of_ble_eq_true rfl)
  rw [lg_entry_eq]
  generalize (lg_sl ([.ref h0]) ++ List.replicate (1 - (lg_sl ([.ref h0])).length) Slot.unset).toArray = ls at hl ⊢
  have hl : lv_has ls 1 [(0, .ref h0)] := hl
  have _ := hl
  refine lv_aload_n hx hb dX8_init_0 rfl (lv_at hl 0 rfl) ?_
  refine W.objInit hx hb hown (hts _ kw_288) (hts _ kw_132) (hts _ kw_133) rfl (by rw [hml]; exact hl.1) rfl dX8_init_1 (Nat.le_of_ble_eq_true rfl) (Nat.le_of_ble_eq_true rfl) ?_
  refine W.eq (g2 := F0 m 4 ls []) rfl ?_
  refine lv_aload_n hx hb dX8_init_4 rfl (lv_at hl 0 rfl) ?_
  refine lv_sipush (v := 1024) hx hb dX8_init_5 (by decide) ?_
  refine k_newa (atype := .boolean) (ty := .boolean) (a0 := (1024, .inl (fun _ => 0))) hx hb (hts _ kw_323) rfl hK hP hD hS hA 2 22 rfl (fun _ => rfl) (by decide) (by decide) (Nat.le_of_ble_eq_true rfl) (Nat.le_of_ble_eq_true rfl) (Nat.le_of_ble_eq_true rfl) dX8_init_8 (fun q1 H hP hD hS => ?_)
  have hP : va_P D vwCl [(h0, .inr (8, [.null, .null, .null, .null, .null, .null, .int 0, .int 0, .int 0, .int 0, .int 0])), (q1, .inl (cA 22, 1024, .inl (fun _ => 0)))] H := hP
  have hD : va_D A [(h0, .inr (8, [.null, .null, .null, .null, .null, .null, .int 0, .int 0, .int 0, .int 0, .int 0])), (q1, .inl (cA 22, 1024, .inl (fun _ => 0)))] := hD
  refine va_putF (D := D) (ci := 8) (v := .ref q1) (ty := .array .boolean) (C := RX8) (T := TX8) (N := 11) hx hb hts ju_8 tyX8 tyX8_ok nmX8 hown hK hP hD hS 0 rfl rfl 0 (by decide) (hts _ kw_289) (fun _ h9 => h9) rfl hin rfl (by decide +kernel) rfl rfl (Nat.le_of_ble_eq_true rfl) dX8_init_10 (fun H locs hP hD hS => ?_)
  have hP : va_P D vwCl [(h0, .inr (8, [.ref q1, .null, .null, .null, .null, .null, .int 0, .int 0, .int 0, .int 0, .int 0])), (q1, .inl (cA 22, 1024, .inl (fun _ => 0)))] H := hP
  have hD : va_D A [(h0, .inr (8, [.ref q1, .null, .null, .null, .null, .null, .int 0, .int 0, .int 0, .int 0, .int 0])), (q1, .inl (cA 22, 1024, .inl (fun _ => 0)))] := hD
  refine lv_aload_n hx hb dX8_init_13 rfl (lv_at hl 0 rfl) ?_
  refine lv_sipush (v := 1024) hx hb dX8_init_14 (by decide) ?_
  refine k_newa (atype := .int) (ty := .int) (a0 := (1024, .inl (fun _ => 0))) hx hb (hts _ kw_147) rfl hK hP hD hS hA 0 20 rfl (fun _ => rfl) (by decide) (by decide) (Nat.le_of_ble_eq_true rfl) (Nat.le_of_ble_eq_true rfl) (Nat.le_of_ble_eq_true rfl) dX8_init_17 (fun q2 H hP hD hS => ?_)
  have hP : va_P D vwCl [(h0, .inr (8, [.ref q1, .null, .null, .null, .null, .null, .int 0, .int 0, .int 0, .int 0, .int 0])), (q1, .inl (cA 22, 1024, .inl (fun _ => 0))), (q2, .inl (cA 20, 1024, .inl (fun _ => 0)))] H := hP
  have hD : va_D A [(h0, .inr (8, [.ref q1, .null, .null, .null, .null, .null, .int 0, .int 0, .int 0, .int 0, .int 0])), (q1, .inl (cA 22, 1024, .inl (fun _ => 0))), (q2, .inl (cA 20, 1024, .inl (fun _ => 0)))] := hD
  refine va_putF (D := D) (ci := 8) (v := .ref q2) (ty := .array .int) (C := RX8) (T := TX8) (N := 11) hx hb hts ju_8 tyX8 tyX8_ok nmX8 hown hK hP hD hS 0 rfl rfl 1 (by decide) (hts _ kw_290) (fun _ h9 => h9) rfl hin rfl (by decide +kernel) rfl rfl (Nat.le_of_ble_eq_true rfl) dX8_init_19 (fun H locs hP hD hS => ?_)
  have hP : va_P D vwCl [(h0, .inr (8, [.ref q1, .ref q2, .null, .null, .null, .null, .int 0, .int 0, .int 0, .int 0, .int 0])), (q1, .inl (cA 22, 1024, .inl (fun _ => 0))), (q2, .inl (cA 20, 1024, .inl (fun _ => 0)))] H := hP
  have hD : va_D A [(h0, .inr (8, [.ref q1, .ref q2, .null, .null, .null, .null, .int 0, .int 0, .int 0, .int 0, .int 0])), (q1, .inl (cA 22, 1024, .inl (fun _ => 0))), (q2, .inl (cA 20, 1024, .inl (fun _ => 0)))] := hD
  refine lv_aload_n hx hb dX8_init_22 rfl (lv_at hl 0 rfl) ?_
  refine lv_bipush (v := 11) hx hb dX8_init_23 (by decide) ?_
  refine k_newa (atype := .int) (ty := .int) (a0 := (11, .inl (fun _ => 0))) hx hb (hts _ kw_147) rfl hK hP hD hS hA 0 20 rfl (fun _ => rfl) (by decide) (by decide) (Nat.le_of_ble_eq_true rfl) (Nat.le_of_ble_eq_true rfl) (Nat.le_of_ble_eq_true rfl) dX8_init_25 (fun q3 H hP hD hS => ?_)
  have hP : va_P D vwCl [(h0, .inr (8, [.ref q1, .ref q2, .null, .null, .null, .null, .int 0, .int 0, .int 0, .int 0, .int 0])), (q1, .inl (cA 22, 1024, .inl (fun _ => 0))), (q2, .inl (cA 20, 1024, .inl (fun _ => 0))), (q3, .inl (cA 20, 11, .inl (fun _ => 0)))] H := hP
  have hD : va_D A [(h0, .inr (8, [.ref q1, .ref q2, .null, .null, .null, .null, .int 0, .int 0, .int 0, .int 0, .int 0])), (q1, .inl (cA 22, 1024, .inl (fun _ => 0))), (q2, .inl (cA 20, 1024, .inl (fun _ => 0))), (q3, .inl (cA 20, 11, .inl (fun _ => 0)))] := hD
  refine va_putF (D := D) (ci := 8) (v := .ref q3) (ty := .array .int) (C := RX8) (T := TX8) (N := 11) hx hb hts ju_8 tyX8 tyX8_ok nmX8 hown hK hP hD hS 0 rfl rfl 2 (by decide) (hts _ kw_291) (fun _ h9 => h9) rfl hin rfl (by decide +kernel) rfl rfl (Nat.le_of_ble_eq_true rfl) dX8_init_27 (fun H locs hP hD hS => ?_)
  have hP : va_P D vwCl [(h0, .inr (8, [.ref q1, .ref q2, .ref q3, .null, .null, .null, .int 0, .int 0, .int 0, .int 0, .int 0])), (q1, .inl (cA 22, 1024, .inl (fun _ => 0))), (q2, .inl (cA 20, 1024, .inl (fun _ => 0))), (q3, .inl (cA 20, 11, .inl (fun _ => 0)))] H := hP
  have hD : va_D A [(h0, .inr (8, [.ref q1, .ref q2, .ref q3, .null, .null, .null, .int 0, .int 0, .int 0, .int 0, .int 0])), (q1, .inl (cA 22, 1024, .inl (fun _ => 0))), (q2, .inl (cA 20, 1024, .inl (fun _ => 0))), (q3, .inl (cA 20, 11, .inl (fun _ => 0)))] := hD
  refine lv_aload_n hx hb dX8_init_30 rfl (lv_at hl 0 rfl) ?_
  refine lv_bipush (v := 10) hx hb dX8_init_31 (by decide) ?_
  refine k_newa (atype := .int) (ty := .int) (a0 := (10, .inl (fun _ => 0))) hx hb (hts _ kw_147) rfl hK hP hD hS hA 0 20 rfl (fun _ => rfl) (by decide) (by decide) (Nat.le_of_ble_eq_true rfl) (Nat.le_of_ble_eq_true rfl) (Nat.le_of_ble_eq_true rfl) dX8_init_33 (fun q4 H hP hD hS => ?_)
  have hP : va_P D vwCl [(h0, .inr (8, [.ref q1, .ref q2, .ref q3, .null, .null, .null, .int 0, .int 0, .int 0, .int 0, .int 0])), (q1, .inl (cA 22, 1024, .inl (fun _ => 0))), (q2, .inl (cA 20, 1024, .inl (fun _ => 0))), (q3, .inl (cA 20, 11, .inl (fun _ => 0))), (q4, .inl (cA 20, 10, .inl (fun _ => 0)))] H := hP
  have hD : va_D A [(h0, .inr (8, [.ref q1, .ref q2, .ref q3, .null, .null, .null, .int 0, .int 0, .int 0, .int 0, .int 0])), (q1, .inl (cA 22, 1024, .inl (fun _ => 0))), (q2, .inl (cA 20, 1024, .inl (fun _ => 0))), (q3, .inl (cA 20, 11, .inl (fun _ => 0))), (q4, .inl (cA 20, 10, .inl (fun _ => 0)))] := hD
  refine va_putF (D := D) (ci := 8) (v := .ref q4) (ty := .array .int) (C := RX8) (T := TX8) (N := 11) hx hb hts ju_8 tyX8 tyX8_ok nmX8 hown hK hP hD hS 0 rfl rfl 3 (by decide) (hts _ kw_292) (fun _ h9 => h9) rfl hin rfl (by decide +kernel) rfl rfl (Nat.le_of_ble_eq_true rfl) dX8_init_35 (fun H locs hP hD hS => ?_)
  have hP : va_P D vwCl [(h0, .inr (8, [.ref q1, .ref q2, .ref q3, .ref q4, .null, .null, .int 0, .int 0, .int 0, .int 0, .int 0])), (q1, .inl (cA 22, 1024, .inl (fun _ => 0))), (q2, .inl (cA 20, 1024, .inl (fun _ => 0))), (q3, .inl (cA 20, 11, .inl (fun _ => 0))), (q4, .inl (cA 20, 10, .inl (fun _ => 0)))] H := hP
  have hD : va_D A [(h0, .inr (8, [.ref q1, .ref q2, .ref q3, .ref q4, .null, .null, .int 0, .int 0, .int 0, .int 0, .int 0])), (q1, .inl (cA 22, 1024, .inl (fun _ => 0))), (q2, .inl (cA 20, 1024, .inl (fun _ => 0))), (q3, .inl (cA 20, 11, .inl (fun _ => 0))), (q4, .inl (cA 20, 10, .inl (fun _ => 0)))] := hD
  refine lv_aload_n hx hb dX8_init_38 rfl (lv_at hl 0 rfl) ?_
  refine lv_bipush (v := 8) hx hb dX8_init_39 (by decide) ?_
  refine k_newa (atype := .int) (ty := .int) (a0 := (8, .inl (fun _ => 0))) hx hb (hts _ kw_147) rfl hK hP hD hS hA 0 20 rfl (fun _ => rfl) (by decide) (by decide) (Nat.le_of_ble_eq_true rfl) (Nat.le_of_ble_eq_true rfl) (Nat.le_of_ble_eq_true rfl) dX8_init_41 (fun q5 H hP hD hS => ?_)
  have hP : va_P D vwCl [(h0, .inr (8, [.ref q1, .ref q2, .ref q3, .ref q4, .null, .null, .int 0, .int 0, .int 0, .int 0, .int 0])), (q1, .inl (cA 22, 1024, .inl (fun _ => 0))), (q2, .inl (cA 20, 1024, .inl (fun _ => 0))), (q3, .inl (cA 20, 11, .inl (fun _ => 0))), (q4, .inl (cA 20, 10, .inl (fun _ => 0))), (q5, .inl (cA 20, 8, .inl (fun _ => 0)))] H := hP
  have hD : va_D A [(h0, .inr (8, [.ref q1, .ref q2, .ref q3, .ref q4, .null, .null, .int 0, .int 0, .int 0, .int 0, .int 0])), (q1, .inl (cA 22, 1024, .inl (fun _ => 0))), (q2, .inl (cA 20, 1024, .inl (fun _ => 0))), (q3, .inl (cA 20, 11, .inl (fun _ => 0))), (q4, .inl (cA 20, 10, .inl (fun _ => 0))), (q5, .inl (cA 20, 8, .inl (fun _ => 0)))] := hD
  refine va_putF (D := D) (ci := 8) (v := .ref q5) (ty := .array .int) (C := RX8) (T := TX8) (N := 11) hx hb hts ju_8 tyX8 tyX8_ok nmX8 hown hK hP hD hS 0 rfl rfl 4 (by decide) (hts _ kw_293) (fun _ h9 => h9) rfl hin rfl (by decide +kernel) rfl rfl (Nat.le_of_ble_eq_true rfl) dX8_init_43 (fun H locs hP hD hS => ?_)
  have hP : va_P D vwCl [(h0, .inr (8, [.ref q1, .ref q2, .ref q3, .ref q4, .ref q5, .null, .int 0, .int 0, .int 0, .int 0, .int 0])), (q1, .inl (cA 22, 1024, .inl (fun _ => 0))), (q2, .inl (cA 20, 1024, .inl (fun _ => 0))), (q3, .inl (cA 20, 11, .inl (fun _ => 0))), (q4, .inl (cA 20, 10, .inl (fun _ => 0))), (q5, .inl (cA 20, 8, .inl (fun _ => 0)))] H := hP
  have hD : va_D A [(h0, .inr (8, [.ref q1, .ref q2, .ref q3, .ref q4, .ref q5, .null, .int 0, .int 0, .int 0, .int 0, .int 0])), (q1, .inl (cA 22, 1024, .inl (fun _ => 0))), (q2, .inl (cA 20, 1024, .inl (fun _ => 0))), (q3, .inl (cA 20, 11, .inl (fun _ => 0))), (q4, .inl (cA 20, 10, .inl (fun _ => 0))), (q5, .inl (cA 20, 8, .inl (fun _ => 0)))] := hD
  refine lv_aload_n hx hb dX8_init_46 rfl (lv_at hl 0 rfl) ?_
  refine lv_bipush (v := 8) hx hb dX8_init_47 (by decide) ?_
  refine k_newa (atype := .int) (ty := .int) (a0 := (8, .inl (fun _ => 0))) hx hb (hts _ kw_147) rfl hK hP hD hS hA 0 20 rfl (fun _ => rfl) (by decide) (by decide) (Nat.le_of_ble_eq_true rfl) (Nat.le_of_ble_eq_true rfl) (Nat.le_of_ble_eq_true rfl) dX8_init_49 (fun q6 H hP hD hS => ?_)
  have hP : va_P D vwCl [(h0, .inr (8, [.ref q1, .ref q2, .ref q3, .ref q4, .ref q5, .null, .int 0, .int 0, .int 0, .int 0, .int 0])), (q1, .inl (cA 22, 1024, .inl (fun _ => 0))), (q2, .inl (cA 20, 1024, .inl (fun _ => 0))), (q3, .inl (cA 20, 11, .inl (fun _ => 0))), (q4, .inl (cA 20, 10, .inl (fun _ => 0))), (q5, .inl (cA 20, 8, .inl (fun _ => 0))), (q6, .inl (cA 20, 8, .inl (fun _ => 0)))] H := hP
  have hD : va_D A [(h0, .inr (8, [.ref q1, .ref q2, .ref q3, .ref q4, .ref q5, .null, .int 0, .int 0, .int 0, .int 0, .int 0])), (q1, .inl (cA 22, 1024, .inl (fun _ => 0))), (q2, .inl (cA 20, 1024, .inl (fun _ => 0))), (q3, .inl (cA 20, 11, .inl (fun _ => 0))), (q4, .inl (cA 20, 10, .inl (fun _ => 0))), (q5, .inl (cA 20, 8, .inl (fun _ => 0))), (q6, .inl (cA 20, 8, .inl (fun _ => 0)))] := hD
  refine va_putF (D := D) (ci := 8) (v := .ref q6) (ty := .array .int) (C := RX8) (T := TX8) (N := 11) hx hb hts ju_8 tyX8 tyX8_ok nmX8 hown hK hP hD hS 0 rfl rfl 5 (by decide) (hts _ kw_294) (fun _ h9 => h9) rfl hin rfl (by decide +kernel) rfl rfl (Nat.le_of_ble_eq_true rfl) dX8_init_51 (fun H locs hP hD hS => ?_)
  have hP : va_P D vwCl [(h0, .inr (8, [.ref q1, .ref q2, .ref q3, .ref q4, .ref q5, .ref q6, .int 0, .int 0, .int 0, .int 0, .int 0])), (q1, .inl (cA 22, 1024, .inl (fun _ => 0))), (q2, .inl (cA 20, 1024, .inl (fun _ => 0))), (q3, .inl (cA 20, 11, .inl (fun _ => 0))), (q4, .inl (cA 20, 10, .inl (fun _ => 0))), (q5, .inl (cA 20, 8, .inl (fun _ => 0))), (q6, .inl (cA 20, 8, .inl (fun _ => 0)))] H := hP
  have hD : va_D A [(h0, .inr (8, [.ref q1, .ref q2, .ref q3, .ref q4, .ref q5, .ref q6, .int 0, .int 0, .int 0, .int 0, .int 0])), (q1, .inl (cA 22, 1024, .inl (fun _ => 0))), (q2, .inl (cA 20, 1024, .inl (fun _ => 0))), (q3, .inl (cA 20, 11, .inl (fun _ => 0))), (q4, .inl (cA 20, 10, .inl (fun _ => 0))), (q5, .inl (cA 20, 8, .inl (fun _ => 0))), (q6, .inl (cA 20, 8, .inl (fun _ => 0)))] := hD
  refine W.widen (k := 6) (n := 2085) (Nat.le_of_ble_eq_true rfl) (Nat.le_of_ble_eq_true rfl) ?_
  exact W.vret hx hb hr (fun t ht hW => ⟨⟨[(h0, .inr (8, [.ref q1, .ref q2, .ref q3, .ref q4, .ref q5, .ref q6, .int 0, .int 0, .int 0, .int 0, .int 0])), (q1, .inl (cA 22, 1024, .inl (fun _ => 0))), (q2, .inl (cA 20, 1024, .inl (fun _ => 0))), (q3, .inl (cA 20, 11, .inl (fun _ => 0))), (q4, .inl (cA 20, 10, .inl (fun _ => 0))), (q5, .inl (cA 20, 8, .inl (fun _ => 0))), (q6, .inl (cA 20, 8, .inl (fun _ => 0)))], rfl, ⟨q1, q2, q3, q4, q5, q6, rfl⟩, by rw [ht]; exact hP, hD⟩, hS.F ht⟩) hS.2.2 dX8_init_54
def pw_ci_X9 (cA : Nat → ClassId) (h0 : Nat) : va_W → Prop := fun w => ∃ q1 : Nat, ∃ q2 : Nat, ∃ q3 : Nat, w = [(h0, .inr (9, [.ref q1, .ref q2, .ref q3, .int 0, .int 0, .int 0, .int 0])), (q1, .inl (cA 20, 40, .inl (fun _ => 0))), (q2, .inl (cA 20, 40, .inl (fun _ => 0))), (q3, .inl (cA 20, 40, .inl (fun _ => 0)))]
set_option maxHeartbeats 4000000 in
set_option maxRecDepth 100000 in
theorem ci_X9 (l : Launch) (D : va_G) (cA : Nat → ClassId) (h0 sz : Nat) : Met l yX9_init (.code yX9_init cX9_init 1 none :: jTs) ({ frames := 1, cells := 3, slots := 120, locals := 20 }) (va_Pc [.ref h0] (kPre D cA sz [(h0, .inr (9, [.null, .null, .null, .int 0, .int 0, .int 0, .int 0]))])) (va_Qv (pw_ci_X9 cA h0) (kPost D (va_A [(h0, .inr (9, [.null, .null, .null, .int 0, .int 0, .int 0, .int 0]))] sz)) (va_A [(h0, .inr (9, [.null, .null, .null, .int 0, .int 0, .int 0, .int 0]))] sz)) 3 120 (va_A [(h0, .inr (9, [.null, .null, .null, .int 0, .int 0, .int 0, .int 0]))] sz) := by
  refine Met.ofW (cc := cX9_init) (maxL := 1) (ret := none) (by decide) rfl ?_
  intro p e s m args below meth c s₁ B hml hv
  obtain ⟨rfl, hsz, hP, hK, hD0, hO, hN⟩ := hv
  have hx := B.exec
  have hb := B.bytes
  have hr := B.returns
  have hts0 := atoms_spec (ws := .code yX9_init cX9_init 1 none :: jTs) B.pre
  have hts : ∀ w ∈ jTs, w.before _ s = true := fun w hw => hts0 w (List.mem_cons_of_mem _ hw)
  have hown : s.vm.findClass RX9 = some m.cls := findClass_of_methodNamed B.named
  have hlocks := B.notSynchronized
  have hin : meth.name = "<init>" := (name_of_methodNamed B.named B.method).1
  subst hsz
  have hD := hD0.self (sz := s.heap.size)
  generalize hAe : va_A [(h0, .inr (9, [.null, .null, .null, .int 0, .int 0, .int 0, .int 0]))] s.heap.size = A at hD ⊢
  have hA : ∀ q : Nat, s.heap.size ≤ q → A q := fun q h => by rw [← hAe]; exact Or.inr h
  have hS : va_S A s.heap s.heap [] := va_S.rf
  have hP : va_P D vwCl [(h0, .inr (9, [.null, .null, .null, .int 0, .int 0, .int 0, .int 0]))] s.heap := hP
  have hl := lv_entry ([.ref h0]) (n := 1) (Nat.le_of_ble_eq_true rfl)
  rw [lg_entry_eq]
  generalize (lg_sl ([.ref h0]) ++ List.replicate (1 - (lg_sl ([.ref h0])).length) Slot.unset).toArray = ls at hl ⊢
  have hl : lv_has ls 1 [(0, .ref h0)] := hl
  have _ := hl
  refine lv_aload_n hx hb dX9_init_0 rfl (lv_at hl 0 rfl) ?_
  refine W.objInit hx hb hown (hts _ kw_203) (hts _ kw_132) (hts _ kw_133) rfl (by rw [hml]; exact hl.1) rfl dX9_init_1 (Nat.le_of_ble_eq_true rfl) (Nat.le_of_ble_eq_true rfl) ?_
  refine W.eq (g2 := F0 m 4 ls []) rfl ?_
  refine lv_aload_n hx hb dX9_init_4 rfl (lv_at hl 0 rfl) ?_
  refine lv_bipush (v := 40) hx hb dX9_init_5 (by decide) ?_
  refine k_newa (atype := .int) (ty := .int) (a0 := (40, .inl (fun _ => 0))) hx hb (hts _ kw_147) rfl hK hP hD hS hA 0 20 rfl (fun _ => rfl) (by decide) (by decide) (Nat.le_of_ble_eq_true rfl) (Nat.le_of_ble_eq_true rfl) (Nat.le_of_ble_eq_true rfl) dX9_init_7 (fun q1 H hP hD hS => ?_)
  have hP : va_P D vwCl [(h0, .inr (9, [.null, .null, .null, .int 0, .int 0, .int 0, .int 0])), (q1, .inl (cA 20, 40, .inl (fun _ => 0)))] H := hP
  have hD : va_D A [(h0, .inr (9, [.null, .null, .null, .int 0, .int 0, .int 0, .int 0])), (q1, .inl (cA 20, 40, .inl (fun _ => 0)))] := hD
  refine va_putF (D := D) (ci := 9) (v := .ref q1) (ty := .array .int) (C := RX9) (T := TX9) (N := 7) hx hb hts ju_9 tyX9 tyX9_ok nmX9 hown hK hP hD hS 0 rfl rfl 0 (by decide) (hts _ kw_204) (fun _ h9 => h9) rfl hin rfl (by decide +kernel) rfl rfl (Nat.le_of_ble_eq_true rfl) dX9_init_9 (fun H locs hP hD hS => ?_)
  have hP : va_P D vwCl [(h0, .inr (9, [.ref q1, .null, .null, .int 0, .int 0, .int 0, .int 0])), (q1, .inl (cA 20, 40, .inl (fun _ => 0)))] H := hP
  have hD : va_D A [(h0, .inr (9, [.ref q1, .null, .null, .int 0, .int 0, .int 0, .int 0])), (q1, .inl (cA 20, 40, .inl (fun _ => 0)))] := hD
  refine lv_aload_n hx hb dX9_init_12 rfl (lv_at hl 0 rfl) ?_
  refine lv_bipush (v := 40) hx hb dX9_init_13 (by decide) ?_
  refine k_newa (atype := .int) (ty := .int) (a0 := (40, .inl (fun _ => 0))) hx hb (hts _ kw_147) rfl hK hP hD hS hA 0 20 rfl (fun _ => rfl) (by decide) (by decide) (Nat.le_of_ble_eq_true rfl) (Nat.le_of_ble_eq_true rfl) (Nat.le_of_ble_eq_true rfl) dX9_init_15 (fun q2 H hP hD hS => ?_)
  have hP : va_P D vwCl [(h0, .inr (9, [.ref q1, .null, .null, .int 0, .int 0, .int 0, .int 0])), (q1, .inl (cA 20, 40, .inl (fun _ => 0))), (q2, .inl (cA 20, 40, .inl (fun _ => 0)))] H := hP
  have hD : va_D A [(h0, .inr (9, [.ref q1, .null, .null, .int 0, .int 0, .int 0, .int 0])), (q1, .inl (cA 20, 40, .inl (fun _ => 0))), (q2, .inl (cA 20, 40, .inl (fun _ => 0)))] := hD
  refine va_putF (D := D) (ci := 9) (v := .ref q2) (ty := .array .int) (C := RX9) (T := TX9) (N := 7) hx hb hts ju_9 tyX9 tyX9_ok nmX9 hown hK hP hD hS 0 rfl rfl 1 (by decide) (hts _ kw_205) (fun _ h9 => h9) rfl hin rfl (by decide +kernel) rfl rfl (Nat.le_of_ble_eq_true rfl) dX9_init_17 (fun H locs hP hD hS => ?_)
  have hP : va_P D vwCl [(h0, .inr (9, [.ref q1, .ref q2, .null, .int 0, .int 0, .int 0, .int 0])), (q1, .inl (cA 20, 40, .inl (fun _ => 0))), (q2, .inl (cA 20, 40, .inl (fun _ => 0)))] H := hP
  have hD : va_D A [(h0, .inr (9, [.ref q1, .ref q2, .null, .int 0, .int 0, .int 0, .int 0])), (q1, .inl (cA 20, 40, .inl (fun _ => 0))), (q2, .inl (cA 20, 40, .inl (fun _ => 0)))] := hD
  refine lv_aload_n hx hb dX9_init_20 rfl (lv_at hl 0 rfl) ?_
  refine lv_bipush (v := 40) hx hb dX9_init_21 (by decide) ?_
  refine k_newa (atype := .int) (ty := .int) (a0 := (40, .inl (fun _ => 0))) hx hb (hts _ kw_147) rfl hK hP hD hS hA 0 20 rfl (fun _ => rfl) (by decide) (by decide) (Nat.le_of_ble_eq_true rfl) (Nat.le_of_ble_eq_true rfl) (Nat.le_of_ble_eq_true rfl) dX9_init_23 (fun q3 H hP hD hS => ?_)
  have hP : va_P D vwCl [(h0, .inr (9, [.ref q1, .ref q2, .null, .int 0, .int 0, .int 0, .int 0])), (q1, .inl (cA 20, 40, .inl (fun _ => 0))), (q2, .inl (cA 20, 40, .inl (fun _ => 0))), (q3, .inl (cA 20, 40, .inl (fun _ => 0)))] H := hP
  have hD : va_D A [(h0, .inr (9, [.ref q1, .ref q2, .null, .int 0, .int 0, .int 0, .int 0])), (q1, .inl (cA 20, 40, .inl (fun _ => 0))), (q2, .inl (cA 20, 40, .inl (fun _ => 0))), (q3, .inl (cA 20, 40, .inl (fun _ => 0)))] := hD
  refine va_putF (D := D) (ci := 9) (v := .ref q3) (ty := .array .int) (C := RX9) (T := TX9) (N := 7) hx hb hts ju_9 tyX9 tyX9_ok nmX9 hown hK hP hD hS 0 rfl rfl 2 (by decide) (hts _ kw_206) (fun _ h9 => h9) rfl hin rfl (by decide +kernel) rfl rfl (Nat.le_of_ble_eq_true rfl) dX9_init_25 (fun H locs hP hD hS => ?_)
  have hP : va_P D vwCl [(h0, .inr (9, [.ref q1, .ref q2, .ref q3, .int 0, .int 0, .int 0, .int 0])), (q1, .inl (cA 20, 40, .inl (fun _ => 0))), (q2, .inl (cA 20, 40, .inl (fun _ => 0))), (q3, .inl (cA 20, 40, .inl (fun _ => 0)))] H := hP
  have hD : va_D A [(h0, .inr (9, [.ref q1, .ref q2, .ref q3, .int 0, .int 0, .int 0, .int 0])), (q1, .inl (cA 20, 40, .inl (fun _ => 0))), (q2, .inl (cA 20, 40, .inl (fun _ => 0))), (q3, .inl (cA 20, 40, .inl (fun _ => 0)))] := hD
  refine W.widen (k := 3) (n := 120) (Nat.le_of_ble_eq_true rfl) (Nat.le_of_ble_eq_true rfl) ?_
  exact W.vret hx hb hr (fun t ht hW => ⟨⟨[(h0, .inr (9, [.ref q1, .ref q2, .ref q3, .int 0, .int 0, .int 0, .int 0])), (q1, .inl (cA 20, 40, .inl (fun _ => 0))), (q2, .inl (cA 20, 40, .inl (fun _ => 0))), (q3, .inl (cA 20, 40, .inl (fun _ => 0)))], rfl, ⟨q1, q2, q3, rfl⟩, by rw [ht]; exact hP, hD⟩, hS.F ht⟩) hS.2.2 dX9_init_28
def pw_ci_X10 (cA : Nat → ClassId) (h0 : Nat) : va_W → Prop := fun w => ∃ q1 : Nat, w = [(h0, .inr (10, [.ref q1, .int 0])), (q1, .inl (cA 20, 80, .inl (fun _ => 0)))]
set_option maxHeartbeats 4000000 in
set_option maxRecDepth 100000 in
theorem ci_X10 (l : Launch) (D : va_G) (cA : Nat → ClassId) (h0 sz : Nat) : Met l yX10_init (.code yX10_init cX10_init 1 none :: jTs) ({ frames := 1, cells := 1, slots := 80, locals := 20 }) (va_Pc [.ref h0] (kPre D cA sz [(h0, .inr (10, [.null, .int 0]))])) (va_Qv (pw_ci_X10 cA h0) (kPost D (va_A [(h0, .inr (10, [.null, .int 0]))] sz)) (va_A [(h0, .inr (10, [.null, .int 0]))] sz)) 1 80 (va_A [(h0, .inr (10, [.null, .int 0]))] sz) := by
  refine Met.ofW (cc := cX10_init) (maxL := 1) (ret := none) (by decide) rfl ?_
  intro p e s m args below meth c s₁ B hml hv
  obtain ⟨rfl, hsz, hP, hK, hD0, hO, hN⟩ := hv
  have hx := B.exec
  have hb := B.bytes
  have hr := B.returns
  have hts0 := atoms_spec (ws := .code yX10_init cX10_init 1 none :: jTs) B.pre
  have hts : ∀ w ∈ jTs, w.before _ s = true := fun w hw => hts0 w (List.mem_cons_of_mem _ hw)
  have hown : s.vm.findClass RX10 = some m.cls := findClass_of_methodNamed B.named
  have hlocks := B.notSynchronized
  have hin : meth.name = "<init>" := (name_of_methodNamed B.named B.method).1
  subst hsz
  have hD := hD0.self (sz := s.heap.size)
  generalize hAe : va_A [(h0, .inr (10, [.null, .int 0]))] s.heap.size = A at hD ⊢
  have hA : ∀ q : Nat, s.heap.size ≤ q → A q := fun q h => by rw [← hAe]; exact Or.inr h
  have hS : va_S A s.heap s.heap [] := va_S.rf
  have hP : va_P D vwCl [(h0, .inr (10, [.null, .int 0]))] s.heap := hP
  have hl := lv_entry ([.ref h0]) (n := 1) (Nat.le_of_ble_eq_true rfl)
  rw [lg_entry_eq]
  generalize (lg_sl ([.ref h0]) ++ List.replicate (1 - (lg_sl ([.ref h0])).length) Slot.unset).toArray = ls at hl ⊢
  have hl : lv_has ls 1 [(0, .ref h0)] := hl
  have _ := hl
  refine lv_aload_n hx hb dX10_init_0 rfl (lv_at hl 0 rfl) ?_
  refine W.objInit hx hb hown (hts _ kw_139) (hts _ kw_132) (hts _ kw_133) rfl (by rw [hml]; exact hl.1) rfl dX10_init_1 (Nat.le_of_ble_eq_true rfl) (Nat.le_of_ble_eq_true rfl) ?_
  refine W.eq (g2 := F0 m 4 ls []) rfl ?_
  refine lv_aload_n hx hb dX10_init_4 rfl (lv_at hl 0 rfl) ?_
  refine lv_bipush (v := 80) hx hb dX10_init_5 (by decide) ?_
  refine k_newa (atype := .int) (ty := .int) (a0 := (80, .inl (fun _ => 0))) hx hb (hts _ kw_147) rfl hK hP hD hS hA 0 20 rfl (fun _ => rfl) (by decide) (by decide) (Nat.le_of_ble_eq_true rfl) (Nat.le_of_ble_eq_true rfl) (Nat.le_of_ble_eq_true rfl) dX10_init_7 (fun q1 H hP hD hS => ?_)
  have hP : va_P D vwCl [(h0, .inr (10, [.null, .int 0])), (q1, .inl (cA 20, 80, .inl (fun _ => 0)))] H := hP
  have hD : va_D A [(h0, .inr (10, [.null, .int 0])), (q1, .inl (cA 20, 80, .inl (fun _ => 0)))] := hD
  refine va_putF (D := D) (ci := 10) (v := .ref q1) (ty := .array .int) (C := RX10) (T := TX10) (N := 2) hx hb hts ju_10 tyX10 tyX10_ok nmX10 hown hK hP hD hS 0 rfl rfl 0 (by decide) (hts _ kw_140) (fun _ h9 => h9) rfl hin rfl (by decide +kernel) rfl rfl (Nat.le_of_ble_eq_true rfl) dX10_init_9 (fun H locs hP hD hS => ?_)
  have hP : va_P D vwCl [(h0, .inr (10, [.ref q1, .int 0])), (q1, .inl (cA 20, 80, .inl (fun _ => 0)))] H := hP
  have hD : va_D A [(h0, .inr (10, [.ref q1, .int 0])), (q1, .inl (cA 20, 80, .inl (fun _ => 0)))] := hD
  refine W.widen (k := 1) (n := 80) (Nat.le_of_ble_eq_true rfl) (Nat.le_of_ble_eq_true rfl) ?_
  exact W.vret hx hb hr (fun t ht hW => ⟨⟨[(h0, .inr (10, [.ref q1, .int 0])), (q1, .inl (cA 20, 80, .inl (fun _ => 0)))], rfl, ⟨q1, rfl⟩, by rw [ht]; exact hP, hD⟩, hS.F ht⟩) hS.2.2 dX10_init_12
