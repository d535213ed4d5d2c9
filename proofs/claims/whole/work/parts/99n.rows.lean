/-! rows for the constructors: arrays of a known class, new objects and the calls of their constructors -/
/-- the words of arrays over a class, carried to another state of the same tables -/
theorem k_over {ty : FieldType} {a a2 : Array Value} {u U : State} (hvm : u.vm.Alike U.vm) (h : (Cond.arrayOver ty).before a u = true) : (Cond.arrayOver ty).before a2 U = true := by
  have h2 := (Cond.arrayOver_setVmC (args := a) (s := u) (vm' := U.vm) hvm ty).trans h
  exact h2
def kAO (U : State) : Prop := va_AO RX4 U ∧ va_AO RX2 U ∧ va_AO RX0 U ∧ (Cond.arrayOver (.array .int)).before #[] U = true
theorem kAO_m {u U : State} (hvm : u.vm.Alike U.vm) (h : kAO u) : kAO U := ⟨va_AO.moved hvm h.1, va_AO.moved hvm h.2.1, va_AO.moved hvm h.2.2.1, k_over hvm h.2.2.2⟩
/-- the links of the private constructors -/
def kNl : List (Nat × MethodName) := [(11, yX10_init), (18, yX1_init), (25, yX6_init), (32, yX9_init), (49, yX0_init), (81, yX8_init), (88, yX5_init), (95, yX3_init), (102, yX7_init)]
def kN (U : State) : Prop := ∀ x ∈ kNl, va_Nw (.methodLinkNest RX11 x.1 x.2 RX11) U
theorem kN_s {u U : State} (hvm : u.vm = U.vm) (h : kN u) : kN U := fun x hx => va_Nw.same rfl hvm (h x hx)
theorem kN_w {s U : State} (hW : s.WarmedH U.vm) (h : kN s) : kN U := fun x hx => va_Nw.warmM hW (h x hx)
theorem k_same {s : State} {c1 c2 : ClassId} {ty : FieldType} (h1 : va_RA s c1 ty) (h2 : va_RA s c2 ty) : c1 = c2 := by
  cases ty with
  | object C =>
    obtain ⟨_, _, -, -, -, f1⟩ := h1
    obtain ⟨_, _, -, -, -, f2⟩ := h2
    exact Option.some.inj (f1.symm.trans f2)
  | _ => exact Option.some.inj (Eq.trans (Eq.symm h1) h2)
def kPre (D : va_G) (cA : Nat → ClassId) (sz : Nat) (ws : va_W) : State → Prop := fun U => U.heap.size = sz ∧ va_P D vwCl ws U.heap ∧ va_K D vwCl (jtys cA) U ∧ va_D (fun _ => True) ws ∧ kAO U ∧ kN U
def kPost (D : va_G) (A : Nat → Prop) : va_W → State → Prop := fun w t => va_P D vwCl w t.heap ∧ va_D A w
theorem k_blind {D : va_G} {cA : Nat → ClassId} {sz : Nat} {ws : va_W} {av : List Value} : FrameBlind (va_Pc av (kPre D cA sz ws)) := fun a U g mk q => by
  obtain ⟨q0, q1, qP, qK, qD, qO, qN⟩ := q
  exact ⟨q0, q1, qP, va_K.moved (u := U) (U := U.calling g mk a) (Vm.Alike.refl U.vm) qK, qD, kAO_m (u := U) (U := U.calling g mk a) (Vm.Alike.refl U.vm) qO, kN_s (u := U) (U := U.calling g mk a) rfl qN⟩
theorem k_last (wr : va_W) (x : Nat × va_E) : (wr ++ [x])[wr.length]? = some x := by simp
theorem k_front (wr : va_W) (x : Nat × va_E) : (List.range wr.length).map (fun i => (wr ++ [x])[i]?) = wr.map some := by
  apply List.ext_getElem?
  intro k
  rw [List.getElem?_map, List.getElem?_map]
  by_cases h : k < wr.length
  · rw [List.getElem?_range h, List.getElem?_eq_getElem h]
    show some ((wr ++ [x])[k]?) = _
    rw [List.getElem?_append_left h, List.getElem?_eq_getElem h]
    rfl
  · rw [List.getElem?_eq_none (by rw [List.length_range]; omega), List.getElem?_eq_none (by omega)]
    rfl
theorem k_nd : ∀ (n a : Nat), va_nd (List.range' a n) = true
  | 0, _ => rfl
  | n + 1, a => by
    show (decide (a ∉ List.range' (a + 1) n) && va_nd (List.range' (a + 1) n)) = true
    rw [k_nd n (a + 1), Bool.and_true]
    refine decide_eq_true fun h => ?_
    obtain ⟨i, -, hi⟩ := List.mem_range'.mp h
    omega
section KR
variable {p : Program} {l : Launch} {e : Env} {R : Room} {s : State} {m : MethodId} {args : Array Value} {below : List Frame} {meth : Method} {c : Code} {H : Heap} {locs : List Loc} {cells slots : Nat} {Q : State → Prop}
variable {cc : ByteArray} {pc : Nat} {ls : Array Slot} {rest : List Value} {D : va_G} {A : Nat → Prop} {cA : Nat → ClassId} {ws : va_W} {H0 : Heap}
theorem k_newa (hexec : p.tables.exec = Jvm.exec) (hb : c.code = cc) {atype : ArrayType} (harr : (Cond.arrayClass (newarray.typeOf atype)).before args s = true) {ty : FieldType} (hty : newarray.typeOf atype = ty) (hK : va_K D vwCl (jtys cA) s) (hP : va_P D vwCl ws H) (hD : va_D A ws) (hS : va_S A H0 H locs) (hA : ∀ q, H0.size ≤ q → A q) (t0 k : Nat) (ht : (jtys cA)[t0]? = some (cA k, ty))
    {n : Int32} {N' : Nat} {a0 : vp_A} (ha : ∀ cA : ClassId, vp_cell cA a0 = arrV cA N' (fun _ => defaultValue ty)) (hn : ¬ n < 0) (hN : n.toNatClampNeg = N') (hbytes : N' * componentBytes ty ≤ 536870912) (hcells : cells + 1 ≤ R.cells) (hslots : slots + N' ≤ R.slots) (hdg : decode cc pc = .ok (.newarray atype, 2))
    (kk : ∀ (q : Nat) (H1 : Heap), va_P D vwCl (ws ++ [(q, .inl (cA k, a0))]) H1 → va_D A (ws ++ [(q, .inl (cA k, a0))]) → va_S A H0 H1 locs →
      W p l e R s m args below meth c H1 locs (cells + 1) (slots + N') Q (F0 m (pc + 2) ls (.ref q :: rest))) : W p l e R s m args below meth c H locs cells slots Q (F0 m pc ls (.int n :: rest)) := by
  refine va_newa hexec hb harr hty hK hP hD hS hA ha hn hN hbytes hcells hslots hdg fun q c1 H1 hK1 hP1 hD1 hS1 => ?_
  have e0 : (jtys cA ++ [(c1, ty)])[(jtys cA).length]? = some (c1, ty) := by simp
  have e1 : c1 = cA k := k_same (hK1.2 (jtys cA).length _ e0).2 (hK.2 t0 _ ht).2
  rw [e1] at hP1 hD1
  exact kk q H1 hP1 hD1 hS1
theorem k_newq (hexec : p.tables.exec = Jvm.exec) (hb : c.code = cc) {own C : String} {index : Nat} (hown : s.vm.findClass own = some m.cls) (hclink : (Cond.classLink own index C).before args s = true) (hover : va_AO C s) (hK : va_K D vwCl (jtys cA) s) (hP : va_P D vwCl ws H) (hD : va_D A ws) (hS : va_S A H0 H locs) (hA : ∀ q, H0.size ≤ q → A q) (t0 k : Nat) (ht : (jtys cA)[t0]? = some (cA k, .object C))
    {n : Int32} {N' : Nat} (hn : ¬ n < 0) (hN : n.toNatClampNeg = N') (hbytes : N' * 4 ≤ 536870912) (hcells : cells + 1 ≤ R.cells) (hslots : slots + N' ≤ R.slots) (hdg : decode cc pc = .ok (.anewarray index, 3))
    (kk : ∀ (q : Nat) (H1 : Heap), va_P D vwCl (ws ++ [(q, .inl (cA k, N', .inr (.inr (.inr (.inr (fun _ => none))))))]) H1 → va_D A (ws ++ [(q, .inl (cA k, N', .inr (.inr (.inr (.inr (fun _ => none))))))]) → va_S A H0 H1 locs →
      W p l e R s m args below meth c H1 locs (cells + 1) (slots + N') Q (F0 m (pc + 3) ls (.ref q :: rest))) : W p l e R s m args below meth c H locs cells slots Q (F0 m pc ls (.int n :: rest)) := by
  refine va_newq hexec hb hown hclink hover hK hP hD hS hA hn hN hbytes hcells hslots hdg fun q c1 H1 hK1 hP1 hD1 hS1 => ?_
  have e0 : (jtys cA ++ [(c1, .object C)])[(jtys cA).length]? = some (c1, .object C) := by simp
  have e1 : c1 = cA k := k_same (hK1.2 (jtys cA).length _ e0).2 (hK.2 t0 _ ht).2
  rw [e1] at hP1 hD1
  exact kk q H1 hP1 hD1 hS1
theorem k_pre {q : Nat} {e0 : va_E} {av : List Value} {wr : va_W} (hK : va_K D vwCl (jtys cA) s) (hO : kAO s) (hN : kN s) (hP : va_P D vwCl (wr ++ [(q, e0)]) H) (hD : va_D A (wr ++ [(q, e0)])) : PreS s H (va_Pc av (kPre D cA H.size [(q, e0)])) av := by
  have hPc : va_P D vwCl [(q, e0)] H := hP.sub [wr.length] (by simp)
  have hDc : va_D A [(q, e0)] := hD.sub [wr.length] rfl (by simp)
  exact ⟨k_blind, fun U hU hW => ⟨rfl, by rw [hU], by rw [hU]; exact hPc, va_K.moved hW.alike hK, hDc.weaken (fun _ _ _ _ => trivial), kAO_m hW.alike hO, kN_w hW hN⟩⟩
theorem k_tail {q mc ms : Nat} {e0 : va_E} {PP : va_W → Prop} {wr : va_W} {st0 : List Value} {a : Array Value} (hP : va_P D vwCl (wr ++ [(q, e0)]) H) (hD : va_D A (wr ++ [(q, e0)])) (hS : va_S A H0 H locs) (hA : ∀ q, H0.size ≤ q → A q)
    (hr : va_Run p l e R s m args below meth c H locs cells slots mc ms (F0 m pc ls st0) rest (va_Qv PP (kPost D (va_A [(q, e0)] H.size)) (va_A [(q, e0)] H.size) a) (va_A [(q, e0)] H.size))
    (kk : ∀ (w : va_W) (H1 : Heap) (locs1 : List Loc), PP w → va_P D vwCl (wr ++ w) H1 → va_D A (wr ++ w) → va_S A H0 H1 locs1 → W p l e R s m args below meth c H1 locs1 (cells + mc) (slots + ms) Q (F0 m (pc + 3) ls rest)) :
    W p l e R s m args below meth c H locs cells slots Q (F0 m pc ls st0) := by
  have hFc := va_free (wc := [(q, e0)]) hD hS hA [wr.length] (by simp)
  refine va_callv hr hS (fun q _ h => hFc q h) hFc (fun u t H1 locs1 ht hvm h5 hB hz1 hk1 hS1 => ?_)
  obtain ⟨hP1, hD1⟩ := hB
  rw [ht] at hP1
  obtain ⟨hP2, hD2⟩ := va_join (wr := wr) (w1 := u) hP hD [wr.length] (List.range wr.length) (by simp) (k_front wr (q, e0)) (by rw [List.range_eq_range']; exact k_nd _ _) (fun i hi hc => by
    have h1 := List.mem_range.mp hi
    have h2 := List.mem_singleton.mp hc
    omega) hk1 hFc hP1 hD1
  exact kk u H1 locs1 h5 hP2 hD2 hS1
set_option maxHeartbeats 4000000 in
theorem k_init {y : MethodName} {bytes : ByteArray} {maxL nL index n mc ms : Nat} {rm : Room} {own : String} {q : Nat} {e0 : va_E} {As : List Value} {PP : va_W → Prop} {wr : va_W}
    (hexec : p.tables.exec = Jvm.exec) (hb : c.code = cc) (hml : c.maxLocals = nL) (hown : s.vm.findClass own = some m.cls) (hts : ∀ w ∈ jTs, w.before args s = true) (hK : va_K D vwCl (jtys cA) s) (hO : kAO s) (hN : kN s) (hP : va_P D vwCl (wr ++ [(q, e0)]) H) (hD : va_D A (wr ++ [(q, e0)])) (hS : va_S A H0 H locs) (hA : ∀ q, H0.size ≤ q → A q)
    (hM : ∀ sz, Met l y (Cond.code y bytes maxL none :: jTs) rm (va_Pc (.ref q :: As) (kPre D cA sz [(q, e0)])) (va_Qv PP (kPost D (va_A [(q, e0)] sz)) (va_A [(q, e0)] sz)) mc ms (va_A [(q, e0)] sz))
    (hcode : Cond.code y bytes maxL none ∈ jTs) (hini : Cond.initialized y.cls ∈ jTs) (hlink : Cond.methodLink own index y ∈ jTs) (hin : Cond.instanceMethod y ∈ jTs) (hrc : rm.cells = mc) (hrs : rm.slots = ms) (hy1 : y.name = "<init>") (hd : y.cls ≠ "java/lang/invoke/MethodHandle" ∧ y.cls ≠ "java/lang/invoke/VarHandle" ∧ (parseMethodDescriptor y.desc).map (fun d => d.parameters.length) = some n) (hR : rm.frames + 1 ≤ R.frames ∧ 8 + (maxL + 11) + rm.locals ≤ R.locals)
    (hn : As.length = n) (hls : ls.size = nL) (hcat : (rest.map fun v => v.category).sum ≤ 8) (hdg : decode cc pc = .ok (.invokespecial index, 3)) (hf : cells + mc ≤ R.cells ∧ slots + ms ≤ R.slots)
    (kk : ∀ (w : va_W) (H1 : Heap) (locs1 : List Loc), PP w → va_P D vwCl (wr ++ w) H1 → va_D A (wr ++ w) → va_S A H0 H1 locs1 → W p l e R s m args below meth c H1 locs1 (cells + mc) (slots + ms) Q (F0 m (pc + 3) ls rest)) :
    W p l e R s m args below meth c H locs cells slots Q (F0 m pc ls (As.reverse ++ .ref q :: rest)) := by
  refine k_tail hP hD hS hA (va_runI (As := As) (rest := rest) ⟨hexec, hb, hml, hown, hts⟩ (hM H.size) (cwI n hts (jTs_good (fun x hx => by
    rcases List.mem_cons.mp hx with rfl | hx
    · exact hcode
    · exact hx)) rfl hrc hrs (hts _ hini) (hts _ hlink) (hts _ hin) hy1 hd hR) (k_pre hK hO hN hP hD) rfl hn hls rfl (lv_room hcat) hdg hf) kk
set_option maxHeartbeats 4000000 in
theorem k_initN {y : MethodName} {bytes : ByteArray} {maxL nL index n mc ms : Nat} {rm : Room} {own : String} {q : Nat} {e0 : va_E} {As : List Value} {PP : va_W → Prop} {wr : va_W}
    (hexec : p.tables.exec = Jvm.exec) (hb : c.code = cc) (hml : c.maxLocals = nL) (hown : s.vm.findClass own = some m.cls) (hts : ∀ w ∈ jTs, w.before args s = true) (hK : va_K D vwCl (jtys cA) s) (hO : kAO s) (hN : kN s) (hP : va_P D vwCl (wr ++ [(q, e0)]) H) (hD : va_D A (wr ++ [(q, e0)])) (hS : va_S A H0 H locs) (hA : ∀ q, H0.size ≤ q → A q)
    (hM : ∀ sz, Met l y (Cond.code y bytes maxL none :: jTs) rm (va_Pc (.ref q :: As) (kPre D cA sz [(q, e0)])) (va_Qv PP (kPost D (va_A [(q, e0)] sz)) (va_A [(q, e0)] sz)) mc ms (va_A [(q, e0)] sz))
    (hcode : Cond.code y bytes maxL none ∈ jTs) (hini : Cond.initialized y.cls ∈ jTs) (hown2 : own = RX11) (hlink : (index, y) ∈ kNl) (hin : Cond.instanceMethod y ∈ jTs) (hrc : rm.cells = mc) (hrs : rm.slots = ms) (hy1 : y.name = "<init>") (hd : y.cls ≠ "java/lang/invoke/MethodHandle" ∧ y.cls ≠ "java/lang/invoke/VarHandle" ∧ (parseMethodDescriptor y.desc).map (fun d => d.parameters.length) = some n) (hR : rm.frames + 1 ≤ R.frames ∧ 8 + (maxL + 11) + rm.locals ≤ R.locals)
    (hn : As.length = n) (hls : ls.size = nL) (hcat : (rest.map fun v => v.category).sum ≤ 8) (hdg : decode cc pc = .ok (.invokespecial index, 3)) (hf : cells + mc ≤ R.cells ∧ slots + ms ≤ R.slots)
    (kk : ∀ (w : va_W) (H1 : Heap) (locs1 : List Loc), PP w → va_P D vwCl (wr ++ w) H1 → va_D A (wr ++ w) → va_S A H0 H1 locs1 → W p l e R s m args below meth c H1 locs1 (cells + mc) (slots + ms) Q (F0 m (pc + 3) ls rest)) :
    W p l e R s m args below meth c H locs cells slots Q (F0 m pc ls (As.reverse ++ .ref q :: rest)) := by
  subst hown2
  refine k_tail hP hD hS hA (va_runIN (As := As) (rest := rest) ⟨hexec, hb, hml, hown, hts⟩ (hM H.size) ⟨va_cnB n hts (jTs_good (fun x hx => by
    rcases List.mem_cons.mp hx with rfl | hx
    · exact hcode
    · exact hx)) rfl hrc hrs (hN _ hlink) (hts _ hini) hd hR, hy1, hts _ hin⟩ (k_pre hK hO hN hP hD) rfl hn hls rfl (lv_room hcat) hdg hf) kk
set_option maxHeartbeats 4000000 in
theorem k_stat {y : MethodName} {bytes : ByteArray} {maxL nL index n mc ms : Nat} {rm : Room} {own : String} {q : Nat} {e0 : va_E} {As : List Value} {PP : va_W → Prop} {wr : va_W}
    (hexec : p.tables.exec = Jvm.exec) (hb : c.code = cc) (hml : c.maxLocals = nL) (hown : s.vm.findClass own = some m.cls) (hts : ∀ w ∈ jTs, w.before args s = true) (hK : va_K D vwCl (jtys cA) s) (hO : kAO s) (hN : kN s) (hP : va_P D vwCl (wr ++ [(q, e0)]) H) (hD : va_D A (wr ++ [(q, e0)])) (hS : va_S A H0 H locs) (hA : ∀ q, H0.size ≤ q → A q)
    (hM : ∀ sz, Met l y (Cond.code y bytes maxL none :: jTs) rm (va_Pc As (kPre D cA sz [(q, e0)])) (va_Qv PP (kPost D (va_A [(q, e0)] sz)) (va_A [(q, e0)] sz)) mc ms (va_A [(q, e0)] sz))
    (hcode : Cond.code y bytes maxL none ∈ jTs) (hini : Cond.initialized y.cls ∈ jTs) (hlink : Cond.methodLink own index y ∈ jTs) (hst : Cond.static y ∈ jTs) (hrc : rm.cells = mc) (hrs : rm.slots = ms) (hd : y.cls ≠ "java/lang/invoke/MethodHandle" ∧ y.cls ≠ "java/lang/invoke/VarHandle" ∧ (parseMethodDescriptor y.desc).map (fun d => d.parameters.length) = some n) (hR : rm.frames + 1 ≤ R.frames ∧ 8 + (maxL + 11) + rm.locals ≤ R.locals)
    (hn : As.length = n) (hls : ls.size = nL) (hcat : (rest.map fun v => v.category).sum ≤ 8) (hdg : decode cc pc = .ok (.invokestatic index, 3)) (hf : cells + mc ≤ R.cells ∧ slots + ms ≤ R.slots)
    (kk : ∀ (w : va_W) (H1 : Heap) (locs1 : List Loc), PP w → va_P D vwCl (wr ++ w) H1 → va_D A (wr ++ w) → va_S A H0 H1 locs1 → W p l e R s m args below meth c H1 locs1 (cells + mc) (slots + ms) Q (F0 m (pc + 3) ls rest)) :
    W p l e R s m args below meth c H locs cells slots Q (F0 m pc ls (As.reverse ++ rest)) := by
  refine k_tail hP hD hS hA (va_runS (As := As) (rest := rest) ⟨hexec, hb, hml, hown, hts⟩ (hM H.size) ⟨callB_of n hts (jTs_good (fun x hx => by
    rcases List.mem_cons.mp hx with rfl | hx
    · exact hcode
    · exact hx)) rfl hrc hrs (hts _ hini) (hts _ hlink) hd hR, hts _ hst⟩ (k_pre hK hO hN hP hD) rfl hn hls rfl (lv_room hcat) hdg hf) kk
end KR
/-- what 'new int[6][10]' does: shown over the library's wide half -/
def MNA : Prop := ∀ (p : Program) (l : Launch) (e : Env) (R : Room) (s : State) (m : MethodId) (args : Array Value) (below : List Frame) (meth : Method) (c : Code) (H : Heap) (locs : List Loc) (cells slots : Nat) (Q : State → Prop) (pc : Nat) (ls : Array Slot) (rest : List Value) (D : va_G) (A : Nat → Prop) (cA : Nat → ClassId) (X : va_W) (H0 : Heap) (index : Nat) (own : String) (cc : ByteArray), p.tables.exec = Jvm.exec → c.code = cc → s.vm.findClass own = some m.cls → (Cond.classLink own index "[[I").before args s = true → (Cond.arrayOver (.array .int)).before args s = true → (Cond.arrayClass .int).before args s = true → va_K D vwCl (jtys cA) s → va_P D vwCl X H → va_D A X → va_S A H0 H locs → (∀ q, H0.size ≤ q → A q) → cells + 7 ≤ R.cells → slots + 66 ≤ R.slots → decode cc pc = .ok (.multianewarray index 2, 4) → (∀ (q : Nat) (r : Nat → Nat) (H1 : Heap), va_P D vwCl (X ++ (q, .inl (cA 27, 6, .inr (.inr (.inr (.inr (fun i => if i < 6 then some (r i) else none)))))) :: (List.range 6).map (fun i => (r i, .inl (cA 20, 10, .inl (fun _ => 0))))) H1 → va_D A (X ++ (q, .inl (cA 27, 6, .inr (.inr (.inr (.inr (fun i => if i < 6 then some (r i) else none)))))) :: (List.range 6).map (fun i => (r i, .inl (cA 20, 10, .inl (fun _ => 0))))) → va_S A H0 H1 locs → W p l e R s m args below meth c H1 locs (cells + 7) (slots + 66) Q (F0 m (pc + 4) ls (.ref q :: rest))) → W p l e R s m args below meth c H locs cells slots Q (F0 m pc ls (.int 10 :: .int 6 :: rest))
