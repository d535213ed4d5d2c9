/-! methods that may throw: what the evaluator answers, the machine does, also where it answers with a throw -/
def nsee : String := "java/util/NoSuchElementException"
def nex : List String := ["java/lang/RuntimeException", "java/lang/Exception"]
def dcl : List MethodName := [⟨"java/lang/RuntimeException", "<init>", "()V"⟩, ⟨"java/lang/RuntimeException", "<init>", "(Ljava/lang/String;)V"⟩, ⟨"java/lang/Exception", "<init>", "()V"⟩, ⟨"java/lang/Exception", "<init>", "(Ljava/lang/String;)V"⟩, ⟨"java/lang/Throwable", "<init>", "()V"⟩, ⟨"java/lang/Throwable", "<init>", "(Ljava/lang/String;)V"⟩]
theorem x0_bad : ∀ w ∈ (vx_at0 RX11 133 nsee nex).filter (fun w => !goodWord w), w ∈ Cond.castable nsee nsee :: dcl.map (fun x => Cond.declares x) := by decide +kernel
theorem x0_in : ∀ w ∈ (vx_at0 RX11 133 nsee nex).filter goodWord, w ∈ jTs := by
  have h : ∀ w ∈ (vx_at0 RX11 133 nsee nex).filter goodWord, w ∈ lw_tbl := by decide +kernel
  exact fun w hw => jTs_mem (h w hw) (List.mem_filter.mp hw).2
theorem x0_ot : ∀ w ∈ Cond.classLink RX11 131 nsee :: Cond.initialized nsee :: vx_at0 RX11 133 nsee nex, vx_ot w = true := by decide +kernel
theorem x0_cl : Cond.classLink RX11 131 nsee ∈ jTs := jTs_ix 1334 (by decide +kernel) rfl
theorem x0_ini : Cond.initialized nsee ∈ jTs := jTs_ix 124 (by decide +kernel) rfl
/-- what a throw stands on beside the tables' words -/
def kX (ad : Nat → Nat) (U : State) (H : Heap) : Prop := va_Nw (.castable nsee nsee) U ∧ (∀ x ∈ dcl, va_Nw (.declares x) U) ∧ vx_Zq Bundle.tN "UNASSIGNED_STACK" Bundle.steD (jA ad) U H ∧ vx_Zq Bundle.tN "SUPPRESSED_SENTINEL" Bundle.listD (jA ad) U H
theorem kX_s {ad : Nat → Nat} {u U : State} {H : Heap} (hvm : u.vm = U.vm) (h : kX ad u H) : kX ad U H := ⟨va_Nw.same rfl hvm h.1, fun x hx => va_Nw.same rfl hvm (h.2.1 x hx), vx_Zq.moved (by rw [hvm]; exact Vm.Alike.refl U.vm) h.2.2.1, vx_Zq.moved (by rw [hvm]; exact Vm.Alike.refl U.vm) h.2.2.2⟩
theorem kX_w {ad : Nat → Nat} {s U : State} {H : Heap} (hW : s.WarmedH U.vm) (h : kX ad s H) : kX ad U H := ⟨va_Nw.warmC hW h.1, fun x hx => va_Nw.warmD hW (h.2.1 x hx), vx_Zq.moved hW.alike h.2.2.1, vx_Zq.moved hW.alike h.2.2.2⟩
theorem kX_k {ad : Nat → Nat} {U : State} {H H1 : Heap} (h : kX ad U H) (hq : ∀ a : Nat, a < H.size → ¬ jA ad a → H1[a]? = H[a]?) : kX ad U H1 := ⟨h.1, h.2.1, vx_Zq.kept h.2.2.1 hq, vx_Zq.kept h.2.2.2 hq⟩
def xPre (D : va_G) (cA : Nat → ClassId) (ad : Nat → Nat) (μ : jM) : State → Prop := fun U => jPre D cA ad μ U ∧ kX ad U U.heap
theorem xPre_blind {D : va_G} {cA : Nat → ClassId} {ad : Nat → Nat} {μ : jM} {av : List Value} : FrameBlind (va_Pc av (xPre D cA ad μ)) := fun a U g mk q => by
  obtain ⟨q0, ⟨qP, qK⟩, qX⟩ := q
  exact ⟨q0, ⟨qP, va_K.moved (u := U) (U := U.calling g mk a) (Vm.Alike.refl U.vm) qK⟩, kX_s (u := U) (U := U.calling g mk a) rfl qX⟩
def xQ (D : va_G) (cA : Nat → ClassId) (ad : Nat → Nat) (o : jO) : Array Value → State → Outcome → State → Prop := fun a st oc t => o.1 ≠ none ∧ jQ D cA ad o a st oc t
def xC (D : va_G) (cA : Nat → ClassId) (ad : Nat → Nat) (o : jO) : String → State → State → Prop := fun E st t => E = nsee ∧ o.1 = none ∧ jokM o.2 ∧ va_P D vwCl (jws cA ad o.2) t.heap ∧ va_F (jA ad) st t
def xRm (d : Nat) : Room := { frames := d, cells := 1, slots := 6, locals := 70 * d }
def xth (q : jIm) (pc : Nat) : Prop := (∀ a b c0 h pc2, (Instr.athrow, a, b, c0, h, pc2) ∈ q.2.2.2.2.1.1 → pc2 = pc) ∧ decode q.2.1 pc = .ok (.new 131, 3) ∧ decode q.2.1 (pc + 3) = .ok (.dup, 1) ∧ decode q.2.1 (pc + 4) = .ok (.invokespecial 133, 3) ∧ decode q.2.1 (pc + 7) = .ok (.athrow, 1)
set_option maxHeartbeats 4000000 in
theorem jx_met (l : Launch) (hl : l.stackTraces = false) (D : va_G) (cA : Nat → ClassId) (ad : Nat → Nat) (hinj : ∀ i j, i < 100 → j < 100 → ad i = ad j → i = j) (d : Nat) (hd : 5 ≤ d) {n pc : Nat} {q : jIm} {as : jSt} {μ : jM} {o : jO} (hq : jIs[n]? = some q) (hc : q.1.cls = RX11) (hth : xth q pc) (h : CL (d + 1) n as μ = some o) (hoS : jokS as) (hoM : jokM μ) : vx_Met l q.1 (jWs q) (xRm (d + 1)) (va_Pc (as.map (jemb ad)) (xPre D cA ad μ)) (xQ D cA ad o) (xC D cA ad o) 1 6 (jA ad) := by
  have hIs := jIs_ok
  have ih := j_met l D cA ad hinj hIs d
  obtain ⟨o1, o2, o3, o4, o5, o6, o7, o8, o9, o10⟩ := hIs q (List.mem_of_getElem? hq)
  obtain ⟨hn, hle, N, hN⟩ := CL_inv hq h
  refine vx_ofW (cc := q.2.1) (maxL := q.2.2.1) (ret := q.2.2.2.1) o1 rfl ?_
  intro p e s m args below meth c s₁ B hml ht hv
  obtain ⟨rfl, ⟨hP, hK⟩, hX⟩ := hv
  have hx := B.exec
  have hb := B.bytes
  have hr := B.returns
  have hts0 := atoms_spec (ws := jWs q) B.pre
  have hts : ∀ w ∈ jTs, w.before _ s = true := fun w hw => hts0 w (List.mem_cons_of_mem _ hw)
  have hown : s.vm.findClass q.1.cls = some m.cls := findClass_of_methodNamed B.named
  have hlocks : meth.locks = false := B.notSynchronized
  obtain ⟨ls, he, hrel⟩ := j_ent (D := D) (cA := cA) (ad := ad) (s := s) (m := m) (nL := q.2.2.1) hn hle hoS hoM hP
  rw [he]
  have fin := jn_snd (Q := vx_MQ below (xQ D cA ad o) (xC D cA ad o) (as.map (jemb ad)).toArray s 1 6 (jA ad)) (R := (headSpec (jWs q) (xRm (d + 1))).room) (p := p) (e := e) (below := below) (meth := meth) (o := o) (T := q.2.2.2.2.1) hx hb hml hown hts hK hinj (Nat.le_refl (d + 1)) (Nat.le_refl (70 * (d + 1))) ih hIs (ret := q.2.2.2.1) ?_ ?_ ?_ ?_ o3 o2 N 0 _ [] μ s.heap [] ls hN hrel
  · rw [o5] at fin
    exact fin
  · intro pc x μ' H locs ls' hdec hret ho hx9 hM9 hP9 hS9
    subst ho
    refine vx_ret (W.widen (k := 1) (n := 6) (by omega) (by omega) ?_)
    have hq9 : ∀ t : State, t.heap = H → s.WarmedH t.vm → xQ D cA ad (some (some (jI x)), μ') (as.map (jemb ad)).toArray s (.returned (some (.int (Int32.ofInt x)))) t := fun t ht _ => ⟨fun z => (by cases z), rfl, by rw [ht]; exact hP9, hS9.F ht, hM9, fun v hv => by cases hv; exact hx9⟩
    rcases hret with z | ⟨z, hz⟩
    · exact W.iret hx hb (hr.trans z) hq9 hS9.2.2 hdec hlocks
    · exact W.zret hx hb (hr.trans z) (o_boolN hz) hq9 hS9.2.2 hdec hlocks
  · intro pc x μ' H locs ls' hdec hret ho hx9 hM9 hP9 hS9
    subst ho
    refine vx_ret (W.widen (k := 1) (n := 6) (by omega) (by omega) ?_)
    exact W.lret hx hb (hr.trans hret) (fun t ht _ => ⟨fun z => (by cases z), rfl, by rw [ht]; exact hP9, hS9.F ht, hM9, fun v hv => by cases hv; exact hx9⟩) hS9.2.2 hdec hlocks
  · intro pc μ' H locs ls' hdec hret ho hM9 hP9 hS9
    subst ho
    refine vx_ret (W.widen (k := 1) (n := 6) (by omega) (by omega) ?_)
    exact W.vret hx hb (hr.trans hret) (fun t ht _ => ⟨fun z => (by cases z), rfl, by rw [ht]; exact hP9, hS9.F ht, hM9, fun v hv => by cases hv⟩) hS9.2.2 hdec hlocks
  · intro a b c0 h0 pc2 μ' H locs ls' hmem ho hM9 hsz hP9 hS9
    obtain ⟨t0, t1, t2, t3, t4⟩ := hth
    have e0 := t0 a b c0 h0 pc2 hmem
    subst e0
    subst ho
    have hown2 : s.vm.findClass RX11 = some m.cls := by rw [← hc]; exact hown
    refine vx_throw0 (own := RX11) (cls := nsee) (names := nex) (ik := 131) (ic := 133) (mc := 1) (ms := 6) (A := jA ad) hx hb hl hown2 (by decide) (by decide) (hts _ x0_cl) (hts _ x0_ini) (vx_hat (B := Cond.castable nsee nsee :: dcl.map (fun x => Cond.declares x)) (fun w hw => hts w (x0_in w hw)) x0_bad ?_) x0_ot hX.2.2.1 hX.2.2.2 hS9 (hsz.trans hml.symm) t1 t2 t3 t4 (fun x hx => (ht x hx).elim) ?_ ?_ (Nat.le_refl 1) (Nat.le_refl 6) hlocks (fun t hal hz hk => ⟨rfl, rfl, hM9, hP9.kept (fun k x hx => hk x.1 (hP9 k x hx).lt), ?_⟩) hS9.2.2 (by decide) (by decide)
    · intro w hw
      rcases List.mem_cons.mp hw with rfl | hw
      · exact va_Nw.use rfl hX.1
      · obtain ⟨x, hx, rfl⟩ := List.mem_map.mp hw
        exact va_Nw.use rfl (hX.2.1 x hx)
    · show 2 + 3 < d + 1
      omega
    · show 0 + (13 * (2 + 1) + 42) ≤ 70 * (d + 1)
      omega
    · exact ⟨Nat.le_trans hS9.1 hz, fun q h1 h2 => (hk q (Nat.lt_of_lt_of_le h1 hS9.1)).trans (hS9.2.1 q h1 h2)⟩
