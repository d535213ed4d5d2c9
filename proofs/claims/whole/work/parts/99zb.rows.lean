/-! rows of the law's own walk -/
def lA (s : State) : Nat → Prop := fun q => s.heap.size ≤ q
def LCx (p : Program) (l : Launch) (s : State) (m : MethodId) (c : Code) (b L : Nat) (xs : Nat → Int32) (D : va_G) (cA : Nat → ClassId) (ad : Nat → Nat) : Prop := p.tables.exec = Jvm.exec ∧ c.code = cL_law ∧ c.maxLocals = 7 ∧ s.vm.findClass RL = some m.cls ∧ (∀ w ∈ jTs, w.before #[Value.ref b] s = true) ∧ va_K D vwCl (jtys cA) s ∧ (∀ i j, i < 100 → j < 100 → ad i = ad j → i = j) ∧ (∀ i, i < 100 → s.heap.size ≤ ad i) ∧ va_X b L xs s s.heap ∧ b < s.heap.size ∧ l.stackTraces = false ∧ kX ad s s.heap
def lLv (b : Nat) (ad : Nat → Nat) (x4 : Int32) : List (Nat × Value) := [(0, .ref b), (1, .ref (ad 0)), (2, .ref (ad 69)), (3, .ref (ad 99)), (4, .int x4)]
def LSt (s : State) (b : Nat) (D : va_G) (cA : Nat → ClassId) (ad : Nat → Nat) (μ : jM) (H : Heap) (locs : List Loc) (ls : Array Slot) (x4 : Int32) : Prop := SI μ ∧ jokM μ ∧ va_P D vwCl (jws cA ad μ) H ∧ va_S (lA s) s.heap H locs ∧ lv_has ls 7 (lLv b ad x4)
theorem jokS_n : jokS [] := fun v hv => by cases hv
section LR
variable {p : Program} {l : Launch} {e : Env} {s : State} {m : MethodId} {below : List Frame} {meth : Method} {c : Code} {Q : State → Prop} {D : va_G} {cA : Nat → ClassId} {ad : Nat → Nat} {b L : Nat} {xs : Nat → Int32} {x4 : Int32} {H : Heap} {locs : List Loc} {cells slots pc : Nat} {ls : Array Slot}
/-- an argument out of the script -/
theorem l_arg {rest : List Value} {lv : List (Nat × Value)} (C : LCx p l s m c b L xs D cA ad) (hS : va_S (lA s) s.heap H locs) (hl : lv_has ls 7 lv) (k0 k4 : Nat) (h0 : lv[k0]? = some (0, .ref b)) (h4 : lv[k4]? = some (4, .int x4)) {j : Int} {v : Int32} {a : Int} (d0 : decode cL_law pc = .ok (.aload_n 0, 1)) (d1 : decode cL_law (pc + 1) = .ok (.iload 4, 2)) (d2 : decode cL_law (pc + 3) = .ok (.iconst j, 1)) (d3 : decode cL_law (pc + 4) = .ok (.iadd, 1)) (d4 : decode cL_law (pc + 5) = .ok (.iaload, 1)) (hj : Int32.ofInt j = v) (hin : vp_in (x4 + v) L) (ha : xs (x4 + v).toNatClampNeg = Int32.ofInt a)
    (kk : W p l e room_1 s m #[Value.ref b] below meth c H locs cells slots Q (F0 m (pc + 6) ls (.int (Int32.ofInt a) :: rest))) : W p l e room_1 s m #[Value.ref b] below meth c H locs cells slots Q (F0 m pc ls rest) := by
  obtain ⟨hx, hb, hml, hown, hts, hK, hinj, hge, hX, hbl, -, -⟩ := C
  refine lv_aload_n hx hb d0 rfl (lv_at hl k0 h0) ?_
  refine lv_iload hx hb d1 (lv_at hl k4 h4) ?_
  refine lv_iconst (v := v) hx hb d2 hj ?_
  refine lv_iadd hx hb d3 ?_
  refine va_sld hx hb hX hbl (by unfold lA; omega) hS hin d4 ?_
  rw [ha]
  exact kk
theorem l_callW {st0 rest : List Value} {a : Array Value} {o : jO} (hge : ∀ i, i < 100 → s.heap.size ≤ ad i) (hr : va_Run p l e room_1 s m #[Value.ref b] below meth c H locs cells slots 0 0 (F0 m pc ls st0) rest (jQ D cA ad o a) (jA ad)) (hS : va_S (lA s) s.heap H locs)
    (kk : ∀ (H1 : Heap) (locs1 : List Loc), jokO o → va_P D vwCl (jws cA ad o.2) H1 → va_S (lA s) s.heap H1 locs1 → W p l e room_1 s m #[Value.ref b] below meth c H1 locs1 cells slots Q (F0 m (pc + 3) ls (((o.1.getD none).map (jemb ad)).toList ++ rest))) : W p l e room_1 s m #[Value.ref b] below meth c H locs cells slots Q (F0 m pc ls st0) := by
  intro T hT X
  have hjA : ∀ q, jA ad q → lA s q := fun q ⟨i, hi, hq⟩ => by rw [hq]; exact hge i hi
  obtain ⟨v, st₀, t, T', L, h0, X', hL, e1, e2, ⟨hv, hP, ⟨hz, hk⟩, hok⟩, st⟩ := hr T hT X
  cases hv
  rw [h0] at hz hk
  obtain ⟨t2, a1, b1⟩ := kk T'.heap (locs ++ L) hok (by rw [e1]; exact hP) ⟨Nat.le_trans hS.1 (by rw [e1]; exact hz), fun q h1 h2 => by rw [e1, hk q (Nat.lt_of_lt_of_le h1 hS.1) (fun z => h2 (hjA q z))]; exact hS.2.1 q h1 h2, fun q hq => by
      rcases List.mem_append.mp hq with h | h
      · exact hS.2.2 q h
      · exact hjA _ (hL q h)⟩ T' rfl X'
  exact ⟨t2, st t2 a1, b1⟩
set_option maxHeartbeats 4000000 in
theorem l_call (C : LCx p l s m c b L xs D cA ad) {n index k ci : Nat} {q : jIm} {r : vw_C} (hq : jIs[n]? = some q) (hst : q.2.2.2.2.2.2 = false) (hdec : decode cL_law pc = .ok (.invokevirtual index, 3)) (hlink : Cond.methodLink RL index q.1 ∈ jTs) {as rest : jSt} {μ : jM} {o : jO} (hc : CL 1000 n (jR k :: as) μ = some o) (hne : o.1 ≠ none) (hlen : as.length = q.2.2.2.2.2.1) (hci : vwCl[ci]? = some r) (hcn : r.1 = q.1.cls) (hkd : KD k = ci) (hoS : jokS (jR k :: as)) (hoM : jokM μ) (hP : va_P D vwCl (jws cA ad μ) H) (hS : va_S (lA s) s.heap H locs) (hls : ls.size = 7) (hcat : jcat rest ≤ 8) (hcs : cells ≤ 601024 ∧ slots ≤ 7293034)
    (kk : ∀ (H1 : Heap) (locs1 : List Loc), jokO o → va_P D vwCl (jws cA ad o.2) H1 → va_S (lA s) s.heap H1 locs1 → W p l e room_1 s m #[Value.ref b] below meth c H1 locs1 cells slots Q (F0 m (pc + 3) ls (((o.1.getD none).map (jemb ad)).toList ++ rest.map (jemb ad)))) : W p l e room_1 s m #[Value.ref b] below meth c H locs cells slots Q (F0 m pc ls (((jR k :: as).reverse ++ rest).map (jemb ad))) := by
  obtain ⟨hx, hb, hml, hown, hts, hK, hinj, hge, -, -, -, -⟩ := C
  obtain ⟨o1, o2, o3, o4, o5, o6, o7, o8, o9, o10⟩ := jIs_ok q (List.mem_of_getElem? hq)
  obtain ⟨i1, i2⟩ := o8 hst
  have hk : k < 100 := jokS_h hoS
  have met := j_met l D cA ad hinj jIs_ok 1000 n q (jR k :: as) μ o hq hc hne (by unfold jar; rw [hst]; show as.length + 1 = _; rw [hlen]; rfl) hoS hoM
  have cw : CallW room_1 s #[Value.ref b] RL q.1.cls index q.1 q.2.1 q.2.2.1 q.2.2.2.1 (jWs q) (jRm 1000) 0 0 q.2.2.2.2.2.1 := by
    refine cwV (Ts := jTs) (ws' := jTs) q.2.2.2.2.2.1 hts (jTs_good ?_) rfl rfl rfl ⟨rfl, o10⟩ ⟨by decide, by show 8 + (q.2.2.1 + 11) + 70000 ≤ 84000; omega⟩
    intro x hx
    unfold wsV jWs at hx
    simp only [List.cons_append, List.nil_append, List.mem_cons] at hx
    rcases hx with rfl | rfl | rfl | rfl | rfl | hx
    · exact hlink
    · exact i1
    · exact i2
    · exact o7
    · exact o6
    · exact hx
  have hs : ((jR k :: as).reverse ++ rest).map (jemb ad) = (as.map (jemb ad)).reverse ++ .ref (ad k) :: rest.map (jemb ad) := by
    simp [jemb]
  rw [hs]
  exact l_callW hge (va_runV (As := as.map (jemb ad)) (rest := rest.map (jemb ad)) (b := ad k) (C := q.1.cls) ⟨hx, hb, hml, hown, hts⟩ met cw ⟨jPre_blind, by rw [← hcn]; exact j_recv hK hP hci hk hkd, fun U hU hW => ⟨rfl, by rw [hU]; exact hP, va_K.moved hW.alike hK⟩⟩ rfl (by rw [List.length_map]; exact hlen) hls rfl (lv_room (by rw [jcat_cat]; exact hcat)) hdec hcs) hS kk
/-- a call of a helper that catches -/
theorem l_help {y : MethodName} {bytes : ByteArray} {maxL index n hd : Nat} {hh : List (Nat × Nat × Nat × Nat)} {As rest : List Value} {μ μ2 : jM} {r : Int} (C : LCx p l s m c b L xs D cA ad)
    (hM : vx_Met l y (.codeWith y bytes maxL (some .int) hh :: jTs) (xRm 1002) (va_Pc As (xPre D cA ad μ)) (fun _ st oc t => oc = .returned (some (.int (Int32.ofInt r))) ∧ jokM μ2 ∧ va_P D vwCl (jws cA ad μ2) t.heap ∧ va_F (jA ad) st t) (fun _ _ _ => False) 1 6 (jA ad))
    (hcode : Cond.codeWith y bytes maxL (some .int) hh ∈ jTs) (hini : Cond.initialized y.cls ∈ jTs) (hlink : Cond.methodLink RL index y ∈ jTs) (hst : Cond.static y ∈ jTs) (hdd : y.cls ≠ "java/lang/invoke/MethodHandle" ∧ y.cls ≠ "java/lang/invoke/VarHandle" ∧ (parseMethodDescriptor y.desc).map (fun d => d.parameters.length) = some n) (hmx : maxL ≤ 10) (hn : As.length = n) (hls : ls.size = 7) (hcat : (rest.map fun v => v.category).sum ≤ 8) (hdec : decode cL_law pc = .ok (.invokestatic index, 3)) (hP : va_P D vwCl (jws cA ad μ) H) (hS : va_S (lA s) s.heap H locs) (hcs : cells + 1 ≤ 601024 ∧ slots + 6 ≤ 7293034)
    (kk : ∀ (H1 : Heap) (locs1 : List Loc), jokM μ2 → va_P D vwCl (jws cA ad μ2) H1 → va_S (lA s) s.heap H1 locs1 → W p l e room_1 s m #[Value.ref b] below meth c H1 locs1 (cells + 1) (slots + 6) Q (F0 m (pc + 3) ls (.int (Int32.ofInt r) :: rest))) : W p l e room_1 s m #[Value.ref b] below meth c H locs cells slots Q (F0 m pc ls (As.reverse ++ rest)) := by
  obtain ⟨hx, hb, hml, hown, hts, hK, hinj, hge, -, -, -, hX⟩ := C
  have hjA : ∀ q, jA ad q → lA s q := fun q ⟨i, hi, hq⟩ => by rw [hq]; exact hge i hi
  have hX1 : kX ad s H := kX_k hX (fun a ha _ => hS.2.1 a ha (by unfold lA; omega))
  have cw : vx_CSW room_1 s #[Value.ref b] RL index y bytes maxL (some .int) hh (.codeWith y bytes maxL (some .int) hh :: jTs) (xRm 1002) 1 6 n := by
    refine vx_cwSW (Ts := jTs) (ws' := jTs) n hts (jTs_good ?_) rfl rfl rfl hdd ⟨by decide, by show 8 + (maxL + 11) + 70140 ≤ 84000; omega⟩
    intro x hx
    unfold va_wsS at hx
    simp only [List.cons_append, List.nil_append, List.mem_cons] at hx
    rcases hx with rfl | rfl | rfl | rfl | hx
    · exact hlink
    · exact hst
    · exact hini
    · exact hcode
    · exact hx
  have hr := vx_runSX (e := e) (below := below) (meth := meth) (cells := cells) (slots := slots) (locs := locs) (H := H) (rest := rest) (g := F0 m pc ls (As.reverse ++ rest)) ⟨hx, hb, hml, hown, hts⟩ hM cw ⟨xPre_blind, fun U hU hW => ⟨rfl, ⟨by rw [hU]; exact hP, va_K.moved hW.alike hK⟩, by rw [hU]; exact kX_w hW hX1⟩⟩ rfl hn hls rfl (lv_room hcat) hdec hcs
  intro T hT X
  rcases hr T hT X with ⟨v, st₀, t, T', L9, h0, X', hL, e1, e2, ⟨hv, hM2, hP2, ⟨hz, hk⟩⟩, st⟩ | ⟨_, _, _, _, _, _, _, _, _, _, _, _, hf, _⟩
  · cases hv
    rw [h0] at hz hk
    obtain ⟨t2, a1, b1⟩ := kk T'.heap (locs ++ L9) hM2 (by rw [e1]; exact hP2) ⟨Nat.le_trans hS.1 (by rw [e1]; exact hz), fun q h1 h2 => by rw [e1, hk q (Nat.lt_of_lt_of_le h1 hS.1) (fun z => h2 (hjA q z))]; exact hS.2.1 q h1 h2, fun q hq => by
      rcases List.mem_append.mp hq with h | h
      · exact hS.2.2 q h
      · exact hjA _ (hL q h)⟩ T' rfl X'
    exact ⟨t2, st t2 a1, b1⟩
  · exact hf.elim
/-- out[0] read -/
theorem l_out {rest : List Value} {μ : jM} (C : LCx p l s m c b L xs D cA ad) (hP : va_P D vwCl (jws cA ad μ) H) (hdec : decode cL_law pc = .ok (.laload, 1))
    (kk : W p l e room_1 s m #[Value.ref b] below meth c H locs cells slots Q (F0 m (pc + 1) ls (.long (Int64.ofInt (μ 99 0)) :: rest))) : W p l e room_1 s m #[Value.ref b] below meth c H locs cells slots Q (F0 m pc ls (.int (Int32.ofInt 0) :: .ref (ad 99) :: rest)) := by
  obtain ⟨hx, hb, hml, hown, hts, hK, -⟩ := C
  have hat := jws_at cA ad μ (p := 99) (by decide)
  rw [jce_a cA ad (μ 99) (by decide), jarr_l ad (μ 99) (by decide)] at hat
  exact va_lald (i := Int32.ofInt 0) hx hb hK hP 99 3 hat rfl (by unfold vp_in; decide) hdec kk
end LR
