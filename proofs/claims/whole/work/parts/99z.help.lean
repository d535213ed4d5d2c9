abbrev cL_dish : ByteArray := method_3_code
def yL_dish : MethodName := ⟨RL, "dish", "(LNextMustShare;II[J)I"⟩
abbrev cL_guest : ByteArray := method_4_code
def yL_guest : MethodName := ⟨RL, "guest", "(LNextMustShare;II[J)I"⟩
abbrev cL_joy : ByteArray := method_5_code
def yL_joy : MethodName := ⟨RL, "joy", "(LNextMustShare;II[J)I"⟩
abbrev cL_row : ByteArray := method_6_code
def yL_row : MethodName := ⟨RL, "row", "(LNextMustShare;I[J)I"⟩
abbrev cL_law : ByteArray := code
def yL_law : MethodName := ⟨RL, "law", "([I)Z"⟩
theorem dX11_dish_20 : decode cX11_dish 20 = .ok (.new 131, 3) := by decide +kernel
theorem dX11_dish_23 : decode cX11_dish 23 = .ok (.dup, 1) := by decide +kernel
theorem dX11_dish_24 : decode cX11_dish 24 = .ok (.invokespecial 133, 3) := by decide +kernel
theorem dX11_dish_27 : decode cX11_dish 27 = .ok (.athrow, 1) := by decide +kernel
theorem dL_dish_0 : decode cL_dish 0 = .ok (.aload_n 3, 1) := by decide +kernel
theorem dL_dish_1 : decode cL_dish 1 = .ok (.iconst 0, 1) := by decide +kernel
theorem dL_dish_2 : decode cL_dish 2 = .ok (.aload_n 0, 1) := by decide +kernel
theorem dL_dish_3 : decode cL_dish 3 = .ok (.iload_n 1, 1) := by decide +kernel
theorem dL_dish_4 : decode cL_dish 4 = .ok (.iload_n 2, 1) := by decide +kernel
theorem dL_dish_5 : decode cL_dish 5 = .ok (.invokevirtual 7, 3) := by decide +kernel
theorem dL_dish_8 : decode cL_dish 8 = .ok (.i2l, 1) := by decide +kernel
theorem dL_dish_9 : decode cL_dish 9 = .ok (.lastore, 1) := by decide +kernel
theorem dL_dish_10 : decode cL_dish 10 = .ok (.goto 7, 3) := by decide +kernel
theorem dL_dish_13 : decode cL_dish 13 = .ok (.astore 4, 2) := by decide +kernel
theorem dL_dish_15 : decode cL_dish 15 = .ok (.iconst 1, 1) := by decide +kernel
theorem dL_dish_16 : decode cL_dish 16 = .ok (.ireturn, 1) := by decide +kernel
theorem dL_dish_17 : decode cL_dish 17 = .ok (.iconst 0, 1) := by decide +kernel
theorem dL_dish_18 : decode cL_dish 18 = .ok (.ireturn, 1) := by decide +kernel
theorem dX11_guest_20 : decode cX11_guest 20 = .ok (.new 131, 3) := by decide +kernel
theorem dX11_guest_23 : decode cX11_guest 23 = .ok (.dup, 1) := by decide +kernel
theorem dX11_guest_24 : decode cX11_guest 24 = .ok (.invokespecial 133, 3) := by decide +kernel
theorem dX11_guest_27 : decode cX11_guest 27 = .ok (.athrow, 1) := by decide +kernel
theorem dL_guest_0 : decode cL_guest 0 = .ok (.aload_n 3, 1) := by decide +kernel
theorem dL_guest_1 : decode cL_guest 1 = .ok (.iconst 0, 1) := by decide +kernel
theorem dL_guest_2 : decode cL_guest 2 = .ok (.aload_n 0, 1) := by decide +kernel
theorem dL_guest_3 : decode cL_guest 3 = .ok (.iload_n 1, 1) := by decide +kernel
theorem dL_guest_4 : decode cL_guest 4 = .ok (.iload_n 2, 1) := by decide +kernel
theorem dL_guest_5 : decode cL_guest 5 = .ok (.invokevirtual 15, 3) := by decide +kernel
theorem dL_guest_8 : decode cL_guest 8 = .ok (.i2l, 1) := by decide +kernel
theorem dL_guest_9 : decode cL_guest 9 = .ok (.lastore, 1) := by decide +kernel
theorem dL_guest_10 : decode cL_guest 10 = .ok (.goto 7, 3) := by decide +kernel
theorem dL_guest_13 : decode cL_guest 13 = .ok (.astore 4, 2) := by decide +kernel
theorem dL_guest_15 : decode cL_guest 15 = .ok (.iconst 1, 1) := by decide +kernel
theorem dL_guest_16 : decode cL_guest 16 = .ok (.ireturn, 1) := by decide +kernel
theorem dL_guest_17 : decode cL_guest 17 = .ok (.iconst 0, 1) := by decide +kernel
theorem dL_guest_18 : decode cL_guest 18 = .ok (.ireturn, 1) := by decide +kernel
theorem dX11_joy_22 : decode cX11_joy 22 = .ok (.new 131, 3) := by decide +kernel
theorem dX11_joy_25 : decode cX11_joy 25 = .ok (.dup, 1) := by decide +kernel
theorem dX11_joy_26 : decode cX11_joy 26 = .ok (.invokespecial 133, 3) := by decide +kernel
theorem dX11_joy_29 : decode cX11_joy 29 = .ok (.athrow, 1) := by decide +kernel
theorem dL_joy_0 : decode cL_joy 0 = .ok (.aload_n 3, 1) := by decide +kernel
theorem dL_joy_1 : decode cL_joy 1 = .ok (.iconst 0, 1) := by decide +kernel
theorem dL_joy_2 : decode cL_joy 2 = .ok (.aload_n 0, 1) := by decide +kernel
theorem dL_joy_3 : decode cL_joy 3 = .ok (.iload_n 1, 1) := by decide +kernel
theorem dL_joy_4 : decode cL_joy 4 = .ok (.iload_n 2, 1) := by decide +kernel
theorem dL_joy_5 : decode cL_joy 5 = .ok (.invokevirtual 18, 3) := by decide +kernel
theorem dL_joy_8 : decode cL_joy 8 = .ok (.i2l, 1) := by decide +kernel
theorem dL_joy_9 : decode cL_joy 9 = .ok (.lastore, 1) := by decide +kernel
theorem dL_joy_10 : decode cL_joy 10 = .ok (.goto 7, 3) := by decide +kernel
theorem dL_joy_13 : decode cL_joy 13 = .ok (.astore 4, 2) := by decide +kernel
theorem dL_joy_15 : decode cL_joy 15 = .ok (.iconst 1, 1) := by decide +kernel
theorem dL_joy_16 : decode cL_joy 16 = .ok (.ireturn, 1) := by decide +kernel
theorem dL_joy_17 : decode cL_joy 17 = .ok (.iconst 0, 1) := by decide +kernel
theorem dL_joy_18 : decode cL_joy 18 = .ok (.ireturn, 1) := by decide +kernel
theorem dX11_row_15 : decode cX11_row 15 = .ok (.new 131, 3) := by decide +kernel
theorem dX11_row_18 : decode cX11_row 18 = .ok (.dup, 1) := by decide +kernel
theorem dX11_row_19 : decode cX11_row 19 = .ok (.invokespecial 133, 3) := by decide +kernel
theorem dX11_row_22 : decode cX11_row 22 = .ok (.athrow, 1) := by decide +kernel
theorem dL_row_0 : decode cL_row 0 = .ok (.aload_n 2, 1) := by decide +kernel
theorem dL_row_1 : decode cL_row 1 = .ok (.iconst 0, 1) := by decide +kernel
theorem dL_row_2 : decode cL_row 2 = .ok (.aload_n 0, 1) := by decide +kernel
theorem dL_row_3 : decode cL_row 3 = .ok (.iload_n 1, 1) := by decide +kernel
theorem dL_row_4 : decode cL_row 4 = .ok (.invokevirtual 21, 3) := by decide +kernel
theorem dL_row_7 : decode cL_row 7 = .ok (.i2l, 1) := by decide +kernel
theorem dL_row_8 : decode cL_row 8 = .ok (.lastore, 1) := by decide +kernel
theorem dL_row_9 : decode cL_row 9 = .ok (.goto 6, 3) := by decide +kernel
theorem dL_row_12 : decode cL_row 12 = .ok (.astore_n 3, 1) := by decide +kernel
theorem dL_row_13 : decode cL_row 13 = .ok (.iconst 1, 1) := by decide +kernel
theorem dL_row_14 : decode cL_row 14 = .ok (.ireturn, 1) := by decide +kernel
theorem dL_row_15 : decode cL_row 15 = .ok (.iconst 0, 1) := by decide +kernel
theorem dL_row_16 : decode cL_row 16 = .ok (.ireturn, 1) := by decide +kernel
theorem x0_law : Cond.classLink RL 13 nsee ∈ jTs := jTs_ix 1329 (by decide +kernel) rfl
theorem j64_32 {v : Int} (h : j32 v) : j64 v := by
  unfold j32 at h
  unfold j64
  omega
theorem xth_dish : xth (yX11_dish, cX11_dish, 3, (some .int), T_X11_dish, 2, false) 20 := by
  refine ⟨?_, dX11_dish_20, dX11_dish_23, dX11_dish_24, dX11_dish_27⟩
  have h : ∀ e ∈ T_X11_dish.1, (match e.1 with | .athrow => decide (e.2.2.2.2.2 = 20) | _ => true) = true := by decide +kernel
  intro a b c0 h0 pc2 hm
  exact of_decide_eq_true (h _ hm)
theorem jq_dish : jIs[149]? = some (yX11_dish, cX11_dish, 3, (some .int), T_X11_dish, 2, false) := by rfl
theorem kl_dish : Cond.methodLink RL 7 yX11_dish ∈ jTs := jTs_ix 1330 (by decide +kernel) rfl
theorem kc_dish : Cond.codeWith yL_dish cL_dish 5 (some .int) [(0, 10, 13, 13)] ∈ jTs := jTs_ix 1328 (by decide +kernel) rfl
set_option maxHeartbeats 4000000 in
theorem hx_dish (l : Launch) (hl : l.stackTraces = false) (D : va_G) (cA : Nat → ClassId) (ad : Nat → Nat) (hinj : ∀ i j, i < 100 → j < 100 → ad i = ad j → i = j) (d : Nat) (hd : 5 ≤ d) {μ μ2 : jM} {o : jO} {a b r : Int} (h : CL (d + 1) 149 [jR 0, jI a, jI b] μ = some o) (ja : j32 a) (jb : j32 b) (hoM : jokM μ) (ho : (o.1 = none ∧ r = 1 ∧ μ2 = o.2) ∨ ∃ v : Int, o.1 = some (some (jI v)) ∧ r = 0 ∧ μ2 = jup o.2 99 0 v) : vx_Met l yL_dish (.codeWith yL_dish cL_dish 5 (some .int) [(0, 10, 13, 13)] :: jTs) (xRm (d + 2)) (va_Pc [.ref (ad 0), .int (Int32.ofInt a), .int (Int32.ofInt b), .ref (ad 99)] (xPre D cA ad μ)) (fun _ st oc t => oc = .returned (some (.int (Int32.ofInt r))) ∧ jokM μ2 ∧ va_P D vwCl (jws cA ad μ2) t.heap ∧ va_F (jA ad) st t) (fun _ _ _ => False) 1 6 (jA ad) := by
  refine vx_ofWH (cc := cL_dish) (maxL := 5) (ret := some .int) (hh := [(0, 10, 13, 13)]) (by decide) rfl ?_
  intro p e s m args below meth c s₁ B hml hv
  obtain ⟨rfl, ⟨hP, hK⟩, hX⟩ := hv
  have hx := B.exec
  have hb := B.bytes
  have hr := B.returns
  have hts0 := atoms_spec (ws := .codeWith yL_dish cL_dish 5 (some .int) [(0, 10, 13, 13)] :: jTs) B.pre
  have hts : ∀ w ∈ jTs, w.before _ s = true := fun w hw => hts0 w (List.mem_cons_of_mem _ hw)
  have hown : s.vm.findClass RL = some m.cls := findClass_of_methodNamed B.named
  have hlocks : meth.locks = false := B.notSynchronized
  have htab : c.exceptionTable.toList = [⟨0, 10, 13, 13⟩] := vx_table (x := yL_dish) B (hts0 _ List.mem_cons_self)
  have hS : va_S (jA ad) s.heap s.heap [] := va_S.rf
  have hoS : jokS (jR 0 :: [jI a, jI b]) := by
    intro v hv
    rcases List.mem_cons.mp hv with rfl | hv
    · show 0 < 100
      decide
    · rcases List.mem_cons.mp hv with rfl | hv
      · exact ja
      · rcases List.mem_singleton.mp hv with rfl
        exact jb
  have hll := lv_entry ([.ref (ad 0), .int (Int32.ofInt a), .int (Int32.ofInt b), .ref (ad 99)]) (n := 5) (Nat.le_of_ble_eq_true rfl)
  rw [lg_entry_eq]
  generalize (lg_sl ([.ref (ad 0), .int (Int32.ofInt a), .int (Int32.ofInt b), .ref (ad 99)]) ++ List.replicate (5 - (lg_sl ([.ref (ad 0), .int (Int32.ofInt a), .int (Int32.ofInt b), .ref (ad 99)])).length) Slot.unset).toArray = ls at hll ⊢
  have hll : lv_has ls 5 [(0, .ref (ad 0)), (1, .int (Int32.ofInt a)), (2, .int (Int32.ofInt b)), (3, .ref (ad 99))] := hll
  refine lv_aload_n hx hb dL_dish_0 rfl (lv_at hll 3 rfl) ?_
  refine lv_iconst (v := Int32.ofInt 0) hx hb dL_dish_1 (by decide) ?_
  refine lv_aload_n hx hb dL_dish_2 rfl (lv_at hll 0 rfl) ?_
  refine lv_iload_n hx hb dL_dish_3 rfl (lv_at hll 1 rfl) ?_
  refine lv_iload_n hx hb dL_dish_4 rfl (lv_at hll 2 rfl) ?_
  have hrun := jx_virt (d := d) (cells := 0) (slots := 0) (locs := []) (ls := ls) (rest := [jI 0, jR 99]) (R := (headSpec (.codeWith yL_dish cL_dish 5 (some .int) [(0, 10, 13, 13)] :: jTs) (xRm (d + 2))).room) (e := e) (below := below) (meth := meth) hl hd hx hb hml hown hts hK hinj (Nat.le_refl (d + 2)) (Nat.le_refl (70 * (d + 2))) jq_dish rfl rfl xth_dish dL_dish_5 kl_dish h rfl hoS hoM hP hX hll.1 (by decide) ⟨Nat.le_refl 1, Nat.le_refl 6⟩
  refine jx_call hrun hS (fun hn ce q9 H1 locs1 hM1 hP1 hS1 hce hcv hcl => ?_) (fun hn H1 locs1 hok hP1 hS1 => ?_)
  · have e0 : r = 1 ∧ μ2 = o.2 := by
      rcases ho with z | ⟨v, z, -⟩
      · exact z.2
      · rw [hn] at z; cases z
    obtain ⟨rfl, rfl⟩ := e0
    refine vx_catch (own := RL) (name := nsee) (E := nsee) (ce := ce) hown [] ⟨0, 10, 13, 13⟩ [] htab (fun z hz => absurd hz List.not_mem_nil) (by decide) (by decide) (hts _ x0_law) (va_Nw.use rfl hX.1) hce hcv hcl ?_
    refine lv_astore (i := 4) (lv' := (4, .ref q9) :: [(0, .ref (ad 0)), (1, .int (Int32.ofInt a)), (2, .int (Int32.ofInt b)), (3, .ref (ad 99))]) hx hb dL_dish_13 hll (by decide) rfl (fun ls hll => ?_)
    refine lv_iconst (v := Int32.ofInt 1) hx hb dL_dish_15 (by decide) ?_
    exact vx_ret (W.iret hx hb hr (fun t ht _ => ⟨rfl, hM1, by rw [ht]; exact hP1, hS1.F ht⟩) hS1.2.2 dL_dish_16 hlocks)
  · obtain ⟨v, hv, rfl, rfl⟩ : ∃ v : Int, o.1 = some (some (jI v)) ∧ r = 0 ∧ μ2 = jup o.2 99 0 v := by
      rcases ho with z | z
      · exact absurd z.1 hn
      · exact z
    have jv : j32 v := hok.2 _ hv
    rw [hv]
    refine lv_i2l (x := Int32.ofInt v) hx hb dL_dish_8 (o_i2l jv) ?_
    refine jx_last hx hb hK hP1 (jws_D cA o.2 hinj) hS1 v dL_dish_9 (fun H2 locs2 hP2 hS2 => ?_)
    refine lv_goto (tgt := 17) hx hb dL_dish_10 (by decide) ?_
    refine lv_iconst (v := Int32.ofInt 0) hx hb dL_dish_17 (by decide) ?_
    exact vx_ret (W.iret hx hb hr (fun t ht _ => ⟨rfl, jok_up hok.1 99 0 v (fun _ => j64_32 jv) (fun z => absurd (by decide) z), by rw [ht]; exact hP2, hS2.F ht⟩) hS2.2.2 dL_dish_18 hlocks)
theorem xth_guest : xth (yX11_guest, cX11_guest, 3, (some .int), T_X11_guest, 2, false) 20 := by
  refine ⟨?_, dX11_guest_20, dX11_guest_23, dX11_guest_24, dX11_guest_27⟩
  have h : ∀ e ∈ T_X11_guest.1, (match e.1 with | .athrow => decide (e.2.2.2.2.2 = 20) | _ => true) = true := by decide +kernel
  intro a b c0 h0 pc2 hm
  exact of_decide_eq_true (h _ hm)
theorem jq_guest : jIs[150]? = some (yX11_guest, cX11_guest, 3, (some .int), T_X11_guest, 2, false) := by rfl
theorem kl_guest : Cond.methodLink RL 15 yX11_guest ∈ jTs := jTs_ix 1401 (by decide +kernel) rfl
theorem kc_guest : Cond.codeWith yL_guest cL_guest 5 (some .int) [(0, 10, 13, 13)] ∈ jTs := jTs_ix 1400 (by decide +kernel) rfl
set_option maxHeartbeats 4000000 in
theorem hx_guest (l : Launch) (hl : l.stackTraces = false) (D : va_G) (cA : Nat → ClassId) (ad : Nat → Nat) (hinj : ∀ i j, i < 100 → j < 100 → ad i = ad j → i = j) (d : Nat) (hd : 5 ≤ d) {μ μ2 : jM} {o : jO} {a b r : Int} (h : CL (d + 1) 150 [jR 0, jI a, jI b] μ = some o) (ja : j32 a) (jb : j32 b) (hoM : jokM μ) (ho : (o.1 = none ∧ r = 1 ∧ μ2 = o.2) ∨ ∃ v : Int, o.1 = some (some (jI v)) ∧ r = 0 ∧ μ2 = jup o.2 99 0 v) : vx_Met l yL_guest (.codeWith yL_guest cL_guest 5 (some .int) [(0, 10, 13, 13)] :: jTs) (xRm (d + 2)) (va_Pc [.ref (ad 0), .int (Int32.ofInt a), .int (Int32.ofInt b), .ref (ad 99)] (xPre D cA ad μ)) (fun _ st oc t => oc = .returned (some (.int (Int32.ofInt r))) ∧ jokM μ2 ∧ va_P D vwCl (jws cA ad μ2) t.heap ∧ va_F (jA ad) st t) (fun _ _ _ => False) 1 6 (jA ad) := by
  refine vx_ofWH (cc := cL_guest) (maxL := 5) (ret := some .int) (hh := [(0, 10, 13, 13)]) (by decide) rfl ?_
  intro p e s m args below meth c s₁ B hml hv
  obtain ⟨rfl, ⟨hP, hK⟩, hX⟩ := hv
  have hx := B.exec
  have hb := B.bytes
  have hr := B.returns
  have hts0 := atoms_spec (ws := .codeWith yL_guest cL_guest 5 (some .int) [(0, 10, 13, 13)] :: jTs) B.pre
  have hts : ∀ w ∈ jTs, w.before _ s = true := fun w hw => hts0 w (List.mem_cons_of_mem _ hw)
  have hown : s.vm.findClass RL = some m.cls := findClass_of_methodNamed B.named
  have hlocks : meth.locks = false := B.notSynchronized
  have htab : c.exceptionTable.toList = [⟨0, 10, 13, 13⟩] := vx_table (x := yL_guest) B (hts0 _ List.mem_cons_self)
  have hS : va_S (jA ad) s.heap s.heap [] := va_S.rf
  have hoS : jokS (jR 0 :: [jI a, jI b]) := by
    intro v hv
    rcases List.mem_cons.mp hv with rfl | hv
    · show 0 < 100
      decide
    · rcases List.mem_cons.mp hv with rfl | hv
      · exact ja
      · rcases List.mem_singleton.mp hv with rfl
        exact jb
  have hll := lv_entry ([.ref (ad 0), .int (Int32.ofInt a), .int (Int32.ofInt b), .ref (ad 99)]) (n := 5) (Nat.le_of_ble_eq_true rfl)
  rw [lg_entry_eq]
  generalize (lg_sl ([.ref (ad 0), .int (Int32.ofInt a), .int (Int32.ofInt b), .ref (ad 99)]) ++ List.replicate (5 - (lg_sl ([.ref (ad 0), .int (Int32.ofInt a), .int (Int32.ofInt b), .ref (ad 99)])).length) Slot.unset).toArray = ls at hll ⊢
  have hll : lv_has ls 5 [(0, .ref (ad 0)), (1, .int (Int32.ofInt a)), (2, .int (Int32.ofInt b)), (3, .ref (ad 99))] := hll
  refine lv_aload_n hx hb dL_guest_0 rfl (lv_at hll 3 rfl) ?_
  refine lv_iconst (v := Int32.ofInt 0) hx hb dL_guest_1 (by decide) ?_
  refine lv_aload_n hx hb dL_guest_2 rfl (lv_at hll 0 rfl) ?_
  refine lv_iload_n hx hb dL_guest_3 rfl (lv_at hll 1 rfl) ?_
  refine lv_iload_n hx hb dL_guest_4 rfl (lv_at hll 2 rfl) ?_
  have hrun := jx_virt (d := d) (cells := 0) (slots := 0) (locs := []) (ls := ls) (rest := [jI 0, jR 99]) (R := (headSpec (.codeWith yL_guest cL_guest 5 (some .int) [(0, 10, 13, 13)] :: jTs) (xRm (d + 2))).room) (e := e) (below := below) (meth := meth) hl hd hx hb hml hown hts hK hinj (Nat.le_refl (d + 2)) (Nat.le_refl (70 * (d + 2))) jq_guest rfl rfl xth_guest dL_guest_5 kl_guest h rfl hoS hoM hP hX hll.1 (by decide) ⟨Nat.le_refl 1, Nat.le_refl 6⟩
  refine jx_call hrun hS (fun hn ce q9 H1 locs1 hM1 hP1 hS1 hce hcv hcl => ?_) (fun hn H1 locs1 hok hP1 hS1 => ?_)
  · have e0 : r = 1 ∧ μ2 = o.2 := by
      rcases ho with z | ⟨v, z, -⟩
      · exact z.2
      · rw [hn] at z; cases z
    obtain ⟨rfl, rfl⟩ := e0
    refine vx_catch (own := RL) (name := nsee) (E := nsee) (ce := ce) hown [] ⟨0, 10, 13, 13⟩ [] htab (fun z hz => absurd hz List.not_mem_nil) (by decide) (by decide) (hts _ x0_law) (va_Nw.use rfl hX.1) hce hcv hcl ?_
    refine lv_astore (i := 4) (lv' := (4, .ref q9) :: [(0, .ref (ad 0)), (1, .int (Int32.ofInt a)), (2, .int (Int32.ofInt b)), (3, .ref (ad 99))]) hx hb dL_guest_13 hll (by decide) rfl (fun ls hll => ?_)
    refine lv_iconst (v := Int32.ofInt 1) hx hb dL_guest_15 (by decide) ?_
    exact vx_ret (W.iret hx hb hr (fun t ht _ => ⟨rfl, hM1, by rw [ht]; exact hP1, hS1.F ht⟩) hS1.2.2 dL_guest_16 hlocks)
  · obtain ⟨v, hv, rfl, rfl⟩ : ∃ v : Int, o.1 = some (some (jI v)) ∧ r = 0 ∧ μ2 = jup o.2 99 0 v := by
      rcases ho with z | z
      · exact absurd z.1 hn
      · exact z
    have jv : j32 v := hok.2 _ hv
    rw [hv]
    refine lv_i2l (x := Int32.ofInt v) hx hb dL_guest_8 (o_i2l jv) ?_
    refine jx_last hx hb hK hP1 (jws_D cA o.2 hinj) hS1 v dL_guest_9 (fun H2 locs2 hP2 hS2 => ?_)
    refine lv_goto (tgt := 17) hx hb dL_guest_10 (by decide) ?_
    refine lv_iconst (v := Int32.ofInt 0) hx hb dL_guest_17 (by decide) ?_
    exact vx_ret (W.iret hx hb hr (fun t ht _ => ⟨rfl, jok_up hok.1 99 0 v (fun _ => j64_32 jv) (fun z => absurd (by decide) z), by rw [ht]; exact hP2, hS2.F ht⟩) hS2.2.2 dL_guest_18 hlocks)
theorem xth_joy : xth (yX11_joy, cX11_joy, 3, (some .int), T_X11_joy, 2, false) 22 := by
  refine ⟨?_, dX11_joy_22, dX11_joy_25, dX11_joy_26, dX11_joy_29⟩
  have h : ∀ e ∈ T_X11_joy.1, (match e.1 with | .athrow => decide (e.2.2.2.2.2 = 22) | _ => true) = true := by decide +kernel
  intro a b c0 h0 pc2 hm
  exact of_decide_eq_true (h _ hm)
theorem jq_joy : jIs[151]? = some (yX11_joy, cX11_joy, 3, (some .int), T_X11_joy, 2, false) := by rfl
theorem kl_joy : Cond.methodLink RL 18 yX11_joy ∈ jTs := jTs_ix 1410 (by decide +kernel) rfl
theorem kc_joy : Cond.codeWith yL_joy cL_joy 5 (some .int) [(0, 10, 13, 13)] ∈ jTs := jTs_ix 1409 (by decide +kernel) rfl
set_option maxHeartbeats 4000000 in
theorem hx_joy (l : Launch) (hl : l.stackTraces = false) (D : va_G) (cA : Nat → ClassId) (ad : Nat → Nat) (hinj : ∀ i j, i < 100 → j < 100 → ad i = ad j → i = j) (d : Nat) (hd : 5 ≤ d) {μ μ2 : jM} {o : jO} {a b r : Int} (h : CL (d + 1) 151 [jR 0, jI a, jI b] μ = some o) (ja : j32 a) (jb : j32 b) (hoM : jokM μ) (ho : (o.1 = none ∧ r = 1 ∧ μ2 = o.2) ∨ ∃ v : Int, o.1 = some (some (jI v)) ∧ r = 0 ∧ μ2 = jup o.2 99 0 v) : vx_Met l yL_joy (.codeWith yL_joy cL_joy 5 (some .int) [(0, 10, 13, 13)] :: jTs) (xRm (d + 2)) (va_Pc [.ref (ad 0), .int (Int32.ofInt a), .int (Int32.ofInt b), .ref (ad 99)] (xPre D cA ad μ)) (fun _ st oc t => oc = .returned (some (.int (Int32.ofInt r))) ∧ jokM μ2 ∧ va_P D vwCl (jws cA ad μ2) t.heap ∧ va_F (jA ad) st t) (fun _ _ _ => False) 1 6 (jA ad) := by
  refine vx_ofWH (cc := cL_joy) (maxL := 5) (ret := some .int) (hh := [(0, 10, 13, 13)]) (by decide) rfl ?_
  intro p e s m args below meth c s₁ B hml hv
  obtain ⟨rfl, ⟨hP, hK⟩, hX⟩ := hv
  have hx := B.exec
  have hb := B.bytes
  have hr := B.returns
  have hts0 := atoms_spec (ws := .codeWith yL_joy cL_joy 5 (some .int) [(0, 10, 13, 13)] :: jTs) B.pre
  have hts : ∀ w ∈ jTs, w.before _ s = true := fun w hw => hts0 w (List.mem_cons_of_mem _ hw)
  have hown : s.vm.findClass RL = some m.cls := findClass_of_methodNamed B.named
  have hlocks : meth.locks = false := B.notSynchronized
  have htab : c.exceptionTable.toList = [⟨0, 10, 13, 13⟩] := vx_table (x := yL_joy) B (hts0 _ List.mem_cons_self)
  have hS : va_S (jA ad) s.heap s.heap [] := va_S.rf
  have hoS : jokS (jR 0 :: [jI a, jI b]) := by
    intro v hv
    rcases List.mem_cons.mp hv with rfl | hv
    · show 0 < 100
      decide
    · rcases List.mem_cons.mp hv with rfl | hv
      · exact ja
      · rcases List.mem_singleton.mp hv with rfl
        exact jb
  have hll := lv_entry ([.ref (ad 0), .int (Int32.ofInt a), .int (Int32.ofInt b), .ref (ad 99)]) (n := 5) (Nat.le_of_ble_eq_true rfl)
  rw [lg_entry_eq]
  generalize (lg_sl ([.ref (ad 0), .int (Int32.ofInt a), .int (Int32.ofInt b), .ref (ad 99)]) ++ List.replicate (5 - (lg_sl ([.ref (ad 0), .int (Int32.ofInt a), .int (Int32.ofInt b), .ref (ad 99)])).length) Slot.unset).toArray = ls at hll ⊢
  have hll : lv_has ls 5 [(0, .ref (ad 0)), (1, .int (Int32.ofInt a)), (2, .int (Int32.ofInt b)), (3, .ref (ad 99))] := hll
  refine lv_aload_n hx hb dL_joy_0 rfl (lv_at hll 3 rfl) ?_
  refine lv_iconst (v := Int32.ofInt 0) hx hb dL_joy_1 (by decide) ?_
  refine lv_aload_n hx hb dL_joy_2 rfl (lv_at hll 0 rfl) ?_
  refine lv_iload_n hx hb dL_joy_3 rfl (lv_at hll 1 rfl) ?_
  refine lv_iload_n hx hb dL_joy_4 rfl (lv_at hll 2 rfl) ?_
  have hrun := jx_virt (d := d) (cells := 0) (slots := 0) (locs := []) (ls := ls) (rest := [jI 0, jR 99]) (R := (headSpec (.codeWith yL_joy cL_joy 5 (some .int) [(0, 10, 13, 13)] :: jTs) (xRm (d + 2))).room) (e := e) (below := below) (meth := meth) hl hd hx hb hml hown hts hK hinj (Nat.le_refl (d + 2)) (Nat.le_refl (70 * (d + 2))) jq_joy rfl rfl xth_joy dL_joy_5 kl_joy h rfl hoS hoM hP hX hll.1 (by decide) ⟨Nat.le_refl 1, Nat.le_refl 6⟩
  refine jx_call hrun hS (fun hn ce q9 H1 locs1 hM1 hP1 hS1 hce hcv hcl => ?_) (fun hn H1 locs1 hok hP1 hS1 => ?_)
  · have e0 : r = 1 ∧ μ2 = o.2 := by
      rcases ho with z | ⟨v, z, -⟩
      · exact z.2
      · rw [hn] at z; cases z
    obtain ⟨rfl, rfl⟩ := e0
    refine vx_catch (own := RL) (name := nsee) (E := nsee) (ce := ce) hown [] ⟨0, 10, 13, 13⟩ [] htab (fun z hz => absurd hz List.not_mem_nil) (by decide) (by decide) (hts _ x0_law) (va_Nw.use rfl hX.1) hce hcv hcl ?_
    refine lv_astore (i := 4) (lv' := (4, .ref q9) :: [(0, .ref (ad 0)), (1, .int (Int32.ofInt a)), (2, .int (Int32.ofInt b)), (3, .ref (ad 99))]) hx hb dL_joy_13 hll (by decide) rfl (fun ls hll => ?_)
    refine lv_iconst (v := Int32.ofInt 1) hx hb dL_joy_15 (by decide) ?_
    exact vx_ret (W.iret hx hb hr (fun t ht _ => ⟨rfl, hM1, by rw [ht]; exact hP1, hS1.F ht⟩) hS1.2.2 dL_joy_16 hlocks)
  · obtain ⟨v, hv, rfl, rfl⟩ : ∃ v : Int, o.1 = some (some (jI v)) ∧ r = 0 ∧ μ2 = jup o.2 99 0 v := by
      rcases ho with z | z
      · exact absurd z.1 hn
      · exact z
    have jv : j32 v := hok.2 _ hv
    rw [hv]
    refine lv_i2l (x := Int32.ofInt v) hx hb dL_joy_8 (o_i2l jv) ?_
    refine jx_last hx hb hK hP1 (jws_D cA o.2 hinj) hS1 v dL_joy_9 (fun H2 locs2 hP2 hS2 => ?_)
    refine lv_goto (tgt := 17) hx hb dL_joy_10 (by decide) ?_
    refine lv_iconst (v := Int32.ofInt 0) hx hb dL_joy_17 (by decide) ?_
    exact vx_ret (W.iret hx hb hr (fun t ht _ => ⟨rfl, jok_up hok.1 99 0 v (fun _ => j64_32 jv) (fun z => absurd (by decide) z), by rw [ht]; exact hP2, hS2.F ht⟩) hS2.2.2 dL_joy_18 hlocks)
theorem xth_row : xth (yX11_row, cX11_row, 2, (some .int), T_X11_row, 1, false) 15 := by
  refine ⟨?_, dX11_row_15, dX11_row_18, dX11_row_19, dX11_row_22⟩
  have h : ∀ e ∈ T_X11_row.1, (match e.1 with | .athrow => decide (e.2.2.2.2.2 = 15) | _ => true) = true := by decide +kernel
  intro a b c0 h0 pc2 hm
  exact of_decide_eq_true (h _ hm)
theorem jq_row : jIs[203]? = some (yX11_row, cX11_row, 2, (some .int), T_X11_row, 1, false) := by rfl
theorem kl_row : Cond.methodLink RL 21 yX11_row ∈ jTs := jTs_ix 1417 (by decide +kernel) rfl
theorem kc_row : Cond.codeWith yL_row cL_row 4 (some .int) [(0, 9, 12, 13)] ∈ jTs := jTs_ix 1416 (by decide +kernel) rfl
set_option maxHeartbeats 4000000 in
theorem hx_row (l : Launch) (hl : l.stackTraces = false) (D : va_G) (cA : Nat → ClassId) (ad : Nat → Nat) (hinj : ∀ i j, i < 100 → j < 100 → ad i = ad j → i = j) (d : Nat) (hd : 5 ≤ d) {μ μ2 : jM} {o : jO} {a r : Int} (h : CL (d + 1) 203 [jR 0, jI a] μ = some o) (ja : j32 a) (hoM : jokM μ) (ho : (o.1 = none ∧ r = 1 ∧ μ2 = o.2) ∨ ∃ v : Int, o.1 = some (some (jI v)) ∧ r = 0 ∧ μ2 = jup o.2 99 0 v) : vx_Met l yL_row (.codeWith yL_row cL_row 4 (some .int) [(0, 9, 12, 13)] :: jTs) (xRm (d + 2)) (va_Pc [.ref (ad 0), .int (Int32.ofInt a), .ref (ad 99)] (xPre D cA ad μ)) (fun _ st oc t => oc = .returned (some (.int (Int32.ofInt r))) ∧ jokM μ2 ∧ va_P D vwCl (jws cA ad μ2) t.heap ∧ va_F (jA ad) st t) (fun _ _ _ => False) 1 6 (jA ad) := by
  refine vx_ofWH (cc := cL_row) (maxL := 4) (ret := some .int) (hh := [(0, 9, 12, 13)]) (by decide) rfl ?_
  intro p e s m args below meth c s₁ B hml hv
  obtain ⟨rfl, ⟨hP, hK⟩, hX⟩ := hv
  have hx := B.exec
  have hb := B.bytes
  have hr := B.returns
  have hts0 := atoms_spec (ws := .codeWith yL_row cL_row 4 (some .int) [(0, 9, 12, 13)] :: jTs) B.pre
  have hts : ∀ w ∈ jTs, w.before _ s = true := fun w hw => hts0 w (List.mem_cons_of_mem _ hw)
  have hown : s.vm.findClass RL = some m.cls := findClass_of_methodNamed B.named
  have hlocks : meth.locks = false := B.notSynchronized
  have htab : c.exceptionTable.toList = [⟨0, 9, 12, 13⟩] := vx_table (x := yL_row) B (hts0 _ List.mem_cons_self)
  have hS : va_S (jA ad) s.heap s.heap [] := va_S.rf
  have hoS : jokS (jR 0 :: [jI a]) := by
    intro v hv
    rcases List.mem_cons.mp hv with rfl | hv
    · show 0 < 100
      decide
    · rcases List.mem_singleton.mp hv with rfl
      exact ja
  have hll := lv_entry ([.ref (ad 0), .int (Int32.ofInt a), .ref (ad 99)]) (n := 4) (Nat.le_of_ble_eq_true rfl)
  rw [lg_entry_eq]
  generalize (lg_sl ([.ref (ad 0), .int (Int32.ofInt a), .ref (ad 99)]) ++ List.replicate (4 - (lg_sl ([.ref (ad 0), .int (Int32.ofInt a), .ref (ad 99)])).length) Slot.unset).toArray = ls at hll ⊢
  have hll : lv_has ls 4 [(0, .ref (ad 0)), (1, .int (Int32.ofInt a)), (2, .ref (ad 99))] := hll
  refine lv_aload_n hx hb dL_row_0 rfl (lv_at hll 2 rfl) ?_
  refine lv_iconst (v := Int32.ofInt 0) hx hb dL_row_1 (by decide) ?_
  refine lv_aload_n hx hb dL_row_2 rfl (lv_at hll 0 rfl) ?_
  refine lv_iload_n hx hb dL_row_3 rfl (lv_at hll 1 rfl) ?_
  have hrun := jx_virt (d := d) (cells := 0) (slots := 0) (locs := []) (ls := ls) (rest := [jI 0, jR 99]) (R := (headSpec (.codeWith yL_row cL_row 4 (some .int) [(0, 9, 12, 13)] :: jTs) (xRm (d + 2))).room) (e := e) (below := below) (meth := meth) hl hd hx hb hml hown hts hK hinj (Nat.le_refl (d + 2)) (Nat.le_refl (70 * (d + 2))) jq_row rfl rfl xth_row dL_row_4 kl_row h rfl hoS hoM hP hX hll.1 (by decide) ⟨Nat.le_refl 1, Nat.le_refl 6⟩
  refine jx_call hrun hS (fun hn ce q9 H1 locs1 hM1 hP1 hS1 hce hcv hcl => ?_) (fun hn H1 locs1 hok hP1 hS1 => ?_)
  · have e0 : r = 1 ∧ μ2 = o.2 := by
      rcases ho with z | ⟨v, z, -⟩
      · exact z.2
      · rw [hn] at z; cases z
    obtain ⟨rfl, rfl⟩ := e0
    refine vx_catch (own := RL) (name := nsee) (E := nsee) (ce := ce) hown [] ⟨0, 9, 12, 13⟩ [] htab (fun z hz => absurd hz List.not_mem_nil) (by decide) (by decide) (hts _ x0_law) (va_Nw.use rfl hX.1) hce hcv hcl ?_
    refine lv_astore_n (lv' := (3, .ref q9) :: [(0, .ref (ad 0)), (1, .int (Int32.ofInt a)), (2, .ref (ad 99))]) hx hb dL_row_12 rfl hll (by decide) rfl (fun ls hll => ?_)
    refine lv_iconst (v := Int32.ofInt 1) hx hb dL_row_13 (by decide) ?_
    exact vx_ret (W.iret hx hb hr (fun t ht _ => ⟨rfl, hM1, by rw [ht]; exact hP1, hS1.F ht⟩) hS1.2.2 dL_row_14 hlocks)
  · obtain ⟨v, hv, rfl, rfl⟩ : ∃ v : Int, o.1 = some (some (jI v)) ∧ r = 0 ∧ μ2 = jup o.2 99 0 v := by
      rcases ho with z | z
      · exact absurd z.1 hn
      · exact z
    have jv : j32 v := hok.2 _ hv
    rw [hv]
    refine lv_i2l (x := Int32.ofInt v) hx hb dL_row_7 (o_i2l jv) ?_
    refine jx_last hx hb hK hP1 (jws_D cA o.2 hinj) hS1 v dL_row_8 (fun H2 locs2 hP2 hS2 => ?_)
    refine lv_goto (tgt := 15) hx hb dL_row_9 (by decide) ?_
    refine lv_iconst (v := Int32.ofInt 0) hx hb dL_row_15 (by decide) ?_
    exact vx_ret (W.iret hx hb hr (fun t ht _ => ⟨rfl, jok_up hok.1 99 0 v (fun _ => j64_32 jv) (fun z => absurd (by decide) z), by rw [ht]; exact hP2, hS2.F ht⟩) hS2.2.2 dL_row_16 hlocks)
