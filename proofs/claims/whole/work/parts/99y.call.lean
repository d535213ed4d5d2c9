section JX
variable {p : Program} {l : Launch} {e : Env} {R : Room} {s : State} {m : MethodId} {args : Array Value} {below : List Frame} {meth : Method} {c : Code} {Q : State → Prop} {cc : ByteArray} {own : String} {nL : Nat} {D : va_G} {cA : Nat → ClassId} {ad : Nat → Nat}
set_option maxHeartbeats 4000000 in
/-- a call of the class's method that may throw -/
theorem jx_virt {d : Nat} (hl : l.stackTraces = false) (hd : 5 ≤ d) (hx : p.tables.exec = Jvm.exec) (hb : c.code = cc) (hml : c.maxLocals = nL) (hown : s.vm.findClass own = some m.cls) (hts : ∀ w ∈ jTs, w.before args s = true) (hK : va_K D vwCl (jtys cA) s) (hinj : ∀ i j, i < 100 → j < 100 → ad i = ad j → i = j) (hR : d + 2 ≤ R.frames) (hRl : 70 * (d + 2) ≤ R.locals)
    {n index pc pcx : Nat} {q : jIm} (hq : jIs[n]? = some q) (hst : q.2.2.2.2.2.2 = false) (hcl : q.1.cls = RX11) (hth : xth q pcx) (hdec : decode cc pc = .ok (.invokevirtual index, 3)) (hlink : Cond.methodLink own index q.1 ∈ jTs) {as rest : jSt} {μ : jM} {o : jO} (hc : CL (d + 1) n (jR 0 :: as) μ = some o) (hlen : as.length = q.2.2.2.2.2.1) {H : Heap} {locs : List Loc} {ls : Array Slot} {cells slots : Nat} (hoS : jokS (jR 0 :: as)) (hoM : jokM μ) (hP : va_P D vwCl (jws cA ad μ) H) (hX : kX ad s H) (hls : ls.size = nL) (hcat : jcat rest ≤ 8) (hf : cells + 1 ≤ R.cells ∧ slots + 6 ≤ R.slots) :
    vx_Run p l e R s m args below meth c H locs cells slots 1 6 (F0 m pc ls (((jR 0 :: as).reverse ++ rest).map (jemb ad))) (rest.map (jemb ad)) (xQ D cA ad o (((jR 0 :: as).map (jemb ad))).toArray) (xC D cA ad o) (jA ad) := by
  obtain ⟨o1, o2, o3, o4, o5, o6, o7, o8, o9, o10⟩ := jIs_ok q (List.mem_of_getElem? hq)
  obtain ⟨i1, i2⟩ := o8 hst
  have met := jx_met l hl D cA ad hinj d hd hq hcl hth hc hoS hoM
  have cw : CallW R s args own RX11 index q.1 q.2.1 q.2.2.1 q.2.2.2.1 (jWs q) (xRm (d + 1)) 1 6 q.2.2.2.2.2.1 := by
    rw [← hcl]
    refine cwV (Ts := jTs) (ws' := jTs) q.2.2.2.2.2.1 hts (jTs_good ?_) rfl rfl rfl ⟨rfl, o10⟩ ⟨hR, by show 8 + (q.2.2.1 + 11) + 70 * (d + 1) ≤ _; omega⟩
    intro x hx
    unfold wsV jWs at hx
    simp only [List.cons_append, List.nil_append, List.mem_cons] at hx
    rcases hx with rfl | rfl | rfl | rfl | rfl | hx
    · exact hlink
    · exact i1
    · exact i2
    · exact o7
    · exact o6
    · exact hx
  have hs : ((jR 0 :: as).reverse ++ rest).map (jemb ad) = (as.map (jemb ad)).reverse ++ .ref (ad 0) :: rest.map (jemb ad) := by
    simp [jemb]
  rw [hs]
  exact vx_runV (As := as.map (jemb ad)) (rest := rest.map (jemb ad)) (b := ad 0) (C := RX11) ⟨hx, hb, hml, hown, hts⟩ met cw ⟨xPre_blind, j_recv hK hP (ci := 11) (r := (RX11, TX11, 16)) rfl (by decide) rfl, fun U hU hW => ⟨rfl, ⟨by rw [hU]; exact hP, va_K.moved hW.alike hK⟩, by rw [hU]; exact kX_w hW hX⟩⟩ rfl (by rw [List.length_map]; exact hlen) hls rfl (lv_room (by rw [jcat_cat]; exact hcat)) hdec hf
theorem jx_call {pc : Nat} {ls : Array Slot} {st0 rest : List Value} {a : Array Value} {H : Heap} {locs : List Loc} {o : jO} {cells slots : Nat} (hr : vx_Run p l e R s m args below meth c H locs cells slots 1 6 (F0 m pc ls st0) rest (xQ D cA ad o a) (xC D cA ad o) (jA ad)) (hS : va_S (jA ad) s.heap H locs)
    (kx : o.1 = none → ∀ (ce : Cell) (q9 : Addr) (H1 : Heap) (locs1 : List Loc), jokM o.2 → va_P D vwCl (jws cA ad o.2) H1 → va_S (jA ad) s.heap H1 locs1 → H1[q9]? = some ce → ce.vm = .none → s.vm.findClass nsee = some ce.cls → vx_W p l e R s m args below meth c H1 locs1 (cells + 1) (slots + 6) Q (F0 m pc ls rest) q9)
    (kk : o.1 ≠ none → ∀ (H1 : Heap) (locs1 : List Loc), jokO o → va_P D vwCl (jws cA ad o.2) H1 → va_S (jA ad) s.heap H1 locs1 → W p l e R s m args below meth c H1 locs1 (cells + 1) (slots + 6) Q (F0 m (pc + 3) ls (((o.1.getD none).map (jemb ad)).toList ++ rest))) : W p l e R s m args below meth c H locs cells slots Q (F0 m pc ls st0) := by
  intro T hT X
  have keep : ∀ {st₀ t T' : State} {L : List Loc}, st₀.heap = H → T'.heap = t.heap → (∀ q ∈ L, jA ad q.base) → va_F (jA ad) st₀ t → va_S (jA ad) s.heap T'.heap (locs ++ L) := fun {st₀ t T' L} h0 e1 hL hF => by
    obtain ⟨hz, hk⟩ := hF
    rw [h0] at hz hk
    exact ⟨Nat.le_trans hS.1 (by rw [e1]; exact hz), fun q h1 h2 => by rw [e1, hk q (Nat.lt_of_lt_of_le h1 hS.1) h2]; exact hS.2.1 q h1 h2, fun q hq => by
      rcases List.mem_append.mp hq with h | h
      · exact hS.2.2 q h
      · exact hL q h⟩
  rcases hr T hT X with ⟨v, st₀, t, T', L, h0, X', hL, e1, e2, ⟨hne, hv, hP, hF, hok⟩, st⟩ | ⟨q, st₀, t, T', L, E, ce, h0, X', hL, e1, e2, ⟨rfl, ho, hM, hP, hF⟩, hce, hcv, hcl, st⟩
  · cases hv
    obtain ⟨t2, a1, b1⟩ := kk hne T'.heap (locs ++ L) hok (by rw [e1]; exact hP) (keep h0 e1 hL hF) T' rfl X'
    exact ⟨t2, st t2 a1, b1⟩
  · obtain ⟨t2, a1, b1⟩ := kx ho ce q T'.heap (locs ++ L) hM (by rw [e1]; exact hP) (keep h0 e1 hL hF) (by rw [e1]; exact hce) hcv hcl T' rfl X'
    exact ⟨t2, st.trans a1, b1⟩
/-- out[0] := v -/
theorem jx_last {pc : Nat} {ls : Array Slot} {rest : List Value} {A : Nat → Prop} {H0 H : Heap} {locs : List Loc} {cells slots : Nat} {μ : jM} (hx : p.tables.exec = Jvm.exec) (hb : c.code = cc) (hK : va_K D vwCl (jtys cA) s) (hP : va_P D vwCl (jws cA ad μ) H) (hD : va_D A (jws cA ad μ)) (hS : va_S A H0 H locs) (v : Int) (hdec : decode cc pc = .ok (.lastore, 1))
    (kk : ∀ (H1 : Heap) (locs1 : List Loc), va_P D vwCl (jws cA ad (jup μ 99 0 v)) H1 → va_S A H0 H1 locs1 → W p l e R s m args below meth c H1 locs1 cells slots Q (F0 m (pc + 1) ls rest)) : W p l e R s m args below meth c H locs cells slots Q (F0 m pc ls (.long (Int64.ofInt v) :: .int (Int32.ofInt 0) :: .ref (ad 99) :: rest)) := by
  have hat := jws_at cA ad μ (p := 99) (by decide)
  rw [jce_a cA ad (μ 99) (by decide), jarr_l ad (μ 99) (by decide)] at hat
  refine va_last (i := Int32.ofInt 0) (x := Int64.ofInt v) hx hb hK hP hD hS 99 3 hat rfl (by unfold vp_in; decide) hdec fun H1 locs1 hP1 hD1 hS1 => ?_
  rw [jws_set (μ' := jup μ 99 0 v) (by decide) (fun z hz => jup_ne hz) (by rw [jup_eq, jce_a cA ad _ (by decide), jarr_l ad _ (by decide), o_cl o_z32, jupdl _ (Int.le_refl 0)])] at hP1
  exact kk H1 locs1 hP1 hS1
end JX
