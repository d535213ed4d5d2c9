/-! THE CLAIM OUT OF ONE WALK OF THE LAW'S BODY. Your part is whole_start (and what it stands on); all else here is the same for every law, but numbers. -/
def R_law : String := "NextMustShareLaw"
def lw_P (b : Addr) (xs : List Int32) (args : Array Value) (s : State) : Prop := args = #[.ref b] ∧ s.IntsAt b xs ∧ xs.length ≤ 2560 ∧ (Jvm.Cond.and given_1 narrow_1).before args s = true
def lw_Q (_ : Array Value) (s : State) (o : Outcome) (t : State) : Prop := o = .returned (some (.int 1)) ∧ Framed s o t [] 601024 7293034
def lw_Z (below : List Frame) (a : Array Value) (s : State) : State → Prop := fun t => ∃ o, t.status = .running ∧ Ended t below o ∧ lw_Q a s o t
/-- the law's own end, with 1 on the stack, nothing written that was there before, its room as the claim has it -/
theorem lw_ret {p : Program} {l : Launch} {e : Env} {s : State} {m : MethodId} {below : List Frame} {meth : Method} {c : Code} {b : Nat} (hx : p.tables.exec = Jvm.exec) (hb : c.code = code) (hr : meth.sig.returnType = ret) (hlocks : meth.locks = false) {pc : Nat} {H : Heap} {ls : Array Slot} (hdg : decode code pc = .ok (.ireturn, 1)) : W p l e room_1 s m #[Value.ref b] below meth c H [] 601024 7293034 (lw_Z below #[Value.ref b] s) (F0 m pc ls [.int 1]) := by
  intro T hT X
  obtain ⟨fs, hret, hrun, hended, hW, hframe⟩ := X.leave (v := some (.int 1)) (hlocks := hlocks) (fun h => by rw [hr] at h; cases h)
  have hmeth' : T.vm.method? m = some meth := X.method'
  refine ⟨T.setFrames fs, ?_, .returned (some (.int 1)), hrun, hended, rfl, ⟨_, rfl⟩, hW, hframe⟩
  jvm_step X.here [X.here.top, hx, hb, hdg, hmeth', hr, ret, narrow_b1]
  (try refine ⟨rfl, ?_⟩); (try refine ⟨rfl, ?_⟩)
  first | (intro acts; rw [hret _ acts rfl rfl rfl]) | rw [hret _ _ rfl rfl rfl]
  exact Steps.refl _
/-- what holds at the law's entry: the machine, the code, the tables' words (any of lw_tbl by 'hts w (by decide +kernel)'), the script of L ints xs at the cell b, what the Statement gives of the start (any of its parts by flat_of_before) -/
def lw_At (p : Program) (s : State) (m : MethodId) (meth : Method) (c : Code) (b L : Nat) (xs : Nat → Int32) : Prop :=
  p.tables.exec = Jvm.exec ∧ c.code = code ∧ meth.sig.returnType = ret ∧ c.maxLocals = 7 ∧ s.vm.findClass R_law = some m.cls ∧ (∀ w ∈ lw_tbl, w.before #[Value.ref b] s = true) ∧ va_X b L xs s s.heap ∧ b < s.heap.size ∧ meth.locks = false ∧ (Jvm.Cond.and given_1 narrow_1).before #[Value.ref b] s = true
theorem kw_105 : ((Jvm.Cond.initialized "NextMustShare") : Jvm.Cond) ∈ jTs := jTs_ix 105 (by decide +kernel) rfl
theorem kw_118 : ((Jvm.Cond.initialized "NextMustShareModel") : Jvm.Cond) ∈ jTs := jTs_ix 118 (by decide +kernel) rfl
theorem kw_121 : ((Jvm.Cond.initialized "java/lang/Throwable") : Jvm.Cond) ∈ jTs := jTs_ix 121 (by decide +kernel) rfl
theorem kw_126 : ((Jvm.Cond.classLink "NextMustShareLaw" (8 : Nat) "NextMustShare") : Jvm.Cond) ∈ jTs := jTs_ix 126 (by decide +kernel) rfl
theorem kw_127 : ((Jvm.Cond.instantiable "NextMustShare" (16 : Nat)) : Jvm.Cond) ∈ jTs := jTs_ix 127 (by decide +kernel) rfl
theorem kw_128 : ((Jvm.Cond.methodLink "NextMustShareLaw" (25 : Nat) ({ cls := "NextMustShare", name := "<init>", desc := "()V" } : Jvm.MethodName)) : Jvm.Cond) ∈ jTs := jTs_ix 128 (by decide +kernel) rfl
theorem kw_129 : ((Jvm.Cond.instanceMethod ({ cls := "NextMustShare", name := "<init>", desc := "()V" } : Jvm.MethodName)) : Jvm.Cond) ∈ jTs := jTs_ix 129 (by decide +kernel) rfl
theorem kw_130 : ((Jvm.Cond.code ({ cls := "NextMustShare", name := "<init>", desc := "()V" } : Jvm.MethodName) prog_1_method_1_code (2 : Nat) (Option.none : Option Jvm.ClassFile.FieldType)) : Jvm.Cond) ∈ jTs := jTs_ix 130 (by decide +kernel) rfl
theorem kw_1425 : ((Jvm.Cond.classLink "NextMustShareLaw" (26 : Nat) "NextMustShareModel") : Jvm.Cond) ∈ jTs := jTs_ix 1425 (by decide +kernel) rfl
theorem kw_1426 : ((Jvm.Cond.instantiable "NextMustShareModel" (53 : Nat)) : Jvm.Cond) ∈ jTs := jTs_ix 1426 (by decide +kernel) rfl
theorem kw_1427 : ((Jvm.Cond.methodLink "NextMustShareLaw" (28 : Nat) ({ cls := "NextMustShareModel", name := "<init>", desc := "()V" } : Jvm.MethodName)) : Jvm.Cond) ∈ jTs := jTs_ix 1427 (by decide +kernel) rfl
theorem kw_1428 : ((Jvm.Cond.instanceMethod ({ cls := "NextMustShareModel", name := "<init>", desc := "()V" } : Jvm.MethodName)) : Jvm.Cond) ∈ jTs := jTs_ix 1428 (by decide +kernel) rfl
theorem kw_1429 : ((Jvm.Cond.code ({ cls := "NextMustShareModel", name := "<init>", desc := "()V" } : Jvm.MethodName) prog_14_method_1_code (1 : Nat) (Option.none : Option Jvm.ClassFile.FieldType)) : Jvm.Cond) ∈ jTs := jTs_ix 1429 (by decide +kernel) rfl
set_option maxHeartbeats 4000000 in
set_option maxRecDepth 100000 in
theorem whole_start0 (hmna : MNA) {p : Program} {e : Env} {s : State} {m : MethodId} {below : List Frame} {meth : Method} {c : Code} (l : Launch) (hflags : l.flags = flags0) {b L : Nat} {xs : Nat → Int32} (hL : L ≤ 2560) (C0 : lw_At p s m meth c b L xs) : W p l e room_1 s m #[Value.ref b] below meth c s.heap [] 0 0 (lw_Z below #[Value.ref b] s) (entryFrame m ([Value.ref b] : List Value).toArray 7) := by
  obtain ⟨hx, hb, hr, hml, hown, htl, hX, hbl, hlocks, hgv⟩ := id C0
  have hts : ∀ w ∈ jTs, w.before #[Value.ref b] s = true := fun w hw => htl w (List.mem_filter.mp hw).1
  have hA : ∀ q : Nat, s.heap.size ≤ q → lA s q := fun _ h => h
  obtain ⟨D, hKc⟩ : ∃ D : va_G, ∀ (k : Nat) (q : vw_C), vwCl[k]? = some q → u_Kn s q.1 q.2.1 q.2.2 (D.1 k) (D.2 k) := by
    have h : ∀ k : Nat, ∃ z : ClassId × (Nat → Nat), ∀ q : vw_C, vwCl[k]? = some q → u_Kn s q.1 q.2.1 q.2.2 z.1 z.2 := by
      intro k
      match k with
      | 0 =>
        obtain ⟨c1, i1, h1⟩ := u_known (C := RX0) (T := TX0) (N := 3) (n := 3) hts ju_0 (hts _ kw_249)
        exact ⟨(c1, i1), fun q hq => by cases hq; exact h1⟩
      | 1 =>
        obtain ⟨c1, i1, h1⟩ := u_known (C := RX1) (T := TX1) (N := 9) (n := 9) hts ju_1 (hts _ kw_149)
        exact ⟨(c1, i1), fun q hq => by cases hq; exact h1⟩
      | 2 =>
        obtain ⟨c1, i1, h1⟩ := u_known (C := RX2) (T := TX2) (N := 4) (n := 4) hts ju_2 (hts _ kw_227)
        exact ⟨(c1, i1), fun q hq => by cases hq; exact h1⟩
      | 3 =>
        obtain ⟨c1, i1, h1⟩ := u_known (C := RX3) (T := TX3) (N := 2) (n := 2) hts ju_3 (hts _ kw_358)
        exact ⟨(c1, i1), fun q hq => by cases hq; exact h1⟩
      | 4 =>
        obtain ⟨c1, i1, h1⟩ := u_known (C := RX4) (T := TX4) (N := 3) (n := 3) hts ju_4 (hts _ kw_266)
        exact ⟨(c1, i1), fun q hq => by cases hq; exact h1⟩
      | 5 =>
        obtain ⟨c1, i1, h1⟩ := u_known (C := RX5) (T := TX5) (N := 8) (n := 8) hts ju_5 (hts _ kw_325)
        exact ⟨(c1, i1), fun q hq => by cases hq; exact h1⟩
      | 6 =>
        obtain ⟨c1, i1, h1⟩ := u_known (C := RX6) (T := TX6) (N := 3) (n := 3) hts ju_6 (hts _ kw_183)
        exact ⟨(c1, i1), fun q hq => by cases hq; exact h1⟩
      | 7 =>
        obtain ⟨c1, i1, h1⟩ := u_known (C := RX7) (T := TX7) (N := 2) (n := 2) hts ju_7 (hts _ kw_371)
        exact ⟨(c1, i1), fun q hq => by cases hq; exact h1⟩
      | 8 =>
        obtain ⟨c1, i1, h1⟩ := u_known (C := RX8) (T := TX8) (N := 11) (n := 11) hts ju_8 (hts _ kw_284)
        exact ⟨(c1, i1), fun q hq => by cases hq; exact h1⟩
      | 9 =>
        obtain ⟨c1, i1, h1⟩ := u_known (C := RX9) (T := TX9) (N := 7) (n := 7) hts ju_9 (hts _ kw_199)
        exact ⟨(c1, i1), fun q hq => by cases hq; exact h1⟩
      | 10 =>
        obtain ⟨c1, i1, h1⟩ := u_known (C := RX10) (T := TX10) (N := 2) (n := 2) hts ju_10 (hts _ kw_135)
        exact ⟨(c1, i1), fun q hq => by cases hq; exact h1⟩
      | 11 =>
        obtain ⟨c1, i1, h1⟩ := u_known (C := RX11) (T := TX11) (N := 16) (n := 16) hts ju_11 (hts _ kw_127)
        exact ⟨(c1, i1), fun q hq => by cases hq; exact h1⟩
      | 12 =>
        obtain ⟨c1, i1, h1⟩ := u_known (C := RX12) (T := TX12) (N := 53) (n := 53) hts ju_12 (hts _ kw_1426)
        exact ⟨(c1, i1), fun q hq => by cases hq; exact h1⟩
      | k + 13 => exact ⟨(0, fun _ => 0), fun q hq => by cases hq⟩
    obtain ⟨f, hf⟩ := Classical.axiomOfChoice h
    exact ⟨(fun k => (f k).1, fun k => (f k).2), hf⟩
  obtain ⟨c20, kA20, cm20, f20, g20, h20⟩ := Cond.arrayClass_spec (hts _ kw_147)
  obtain ⟨c21, kA21, cm21, f21, g21, h21⟩ := Cond.arrayClass_spec (hts _ kw_1591)
  obtain ⟨c22, kA22, cm22, f22, g22, h22⟩ := Cond.arrayClass_spec (hts _ kw_323)
  obtain ⟨c23, kA23, cm23, f23, g23, h23⟩ := Cond.arrayClass_spec (hts _ kw_1592)
  have ao24 : va_AO RX4 s := va_AO.of (htl (.arrayOver (.object RX4)) (List.mem_of_getElem? (i := 265) (by decide +kernel)))
  obtain ⟨c24, g24, h24⟩ := k_ao ao24
  have ao25 : va_AO RX2 s := va_AO.of (htl (.arrayOver (.object RX2)) (List.mem_of_getElem? (i := 281) (by decide +kernel)))
  obtain ⟨c25, g25, h25⟩ := k_ao ao25
  have ao26 : va_AO RX0 s := va_AO.of (htl (.arrayOver (.object RX0)) (List.mem_of_getElem? (i := 282) (by decide +kernel)))
  obtain ⟨c26, g26, h26⟩ := k_ao ao26
  have ao27 := htl (.arrayOver (.array .int)) (List.mem_of_getElem? (i := 331) (by decide +kernel))
  obtain ⟨c27, g27, h27⟩ := k_aoa ao27
  obtain ⟨cA, hcA⟩ : ∃ cA : Nat → ClassId, [cA 20, cA 21, cA 22, cA 23, cA 24, cA 25, cA 26, cA 27] = [c20, c21, c22, c23, c24, c25, c26, c27] := ⟨fun k => [c20, c21, c22, c23, c24, c25, c26, c27].getD (k - 20) 0, rfl⟩
  simp only [List.cons.injEq, and_true] at hcA
  obtain ⟨e20, e21, e22, e23, e24, e25, e26, e27⟩ := hcA
  have hK : va_K D vwCl (jtys cA) s := by
    refine ⟨hKc, fun k q hq => ?_⟩
    unfold jtys at hq
    rw [e20, e21, e22, e23, e24, e25, e26, e27] at hq
    match k, hq with
    | 0, hq => cases hq; exact ⟨fun n z => ⟨fun k h => (by cases h), kA20, g20, cm20, h20⟩, f20⟩
    | 1, hq => cases hq; exact ⟨fun n z => ⟨fun k h => (by cases h), kA21, g21, cm21, h21⟩, f21⟩
    | 2, hq => cases hq; exact ⟨fun n z => ⟨fun k h => (by cases h), kA22, g22, cm22, h22⟩, f22⟩
    | 3, hq => cases hq; exact ⟨fun n z => ⟨fun k h => (by cases h), kA23, g23, cm23, h23⟩, f23⟩
    | 4, hq => cases hq; exact ⟨g24, h24⟩
    | 5, hq => cases hq; exact ⟨g25, h25⟩
    | 6, hq => cases hq; exact ⟨g26, h26⟩
    | 7, hq => cases hq; exact ⟨g27, h27⟩
    | k + 8, hq => cases hq
  have hO : kAO s := ⟨ao24, ao25, ao26, ao27⟩
  have hN : kN s := by
    have h : ∀ x ∈ kNl, Cond.methodLinkNest RX11 x.1 x.2 RX11 ∈ lw_tbl := by decide +kernel
    exact fun x hx => va_Nw.of rfl (htl _ (h x hx))
  have hcst : va_Nw (.castable nsee nsee) s := va_Nw.of rfl (htl _ (List.mem_of_getElem? (i := 1336) (by decide +kernel)))
  have hdcl : ∀ x ∈ dcl, va_Nw (.declares x) s := by
    have h : ∀ x ∈ dcl, Cond.declares x ∈ lw_tbl := by decide +kernel
    exact fun x hx => va_Nw.of rfl (htl _ (h x hx))
  have hflat := flat_of_before _ hgv
  have hthr : (Cond.initialized Bundle.tN).before #[Value.ref b] s = true := hts _ kw_121
  have hzU : ∀ B : Nat → Prop, (∀ q, B q → s.heap.size ≤ q) → vx_Zq Bundle.tN "UNASSIGNED_STACK" Bundle.steD B s s.heap := fun B hB => vx_Zqof (htl _ (List.mem_of_getElem? (i := 1361) (by decide +kernel))) hthr (hflat _ (by decide +kernel)) (fun a ha hn => absurd (hB a hn) (by omega))
  have hzS : ∀ B : Nat → Prop, (∀ q, B q → s.heap.size ≤ q) → vx_Zq Bundle.tN "SUPPRESSED_SENTINEL" Bundle.listD B s s.heap := fun B hB => vx_Zqof (htl _ (List.mem_of_getElem? (i := 1363) (by decide +kernel))) hthr (hflat _ (by decide +kernel)) (fun a ha hn => absurd (hB a hn) (by omega))
  have hS : va_S (lA s) s.heap s.heap [] := va_S.rf
  have hP : va_P D vwCl [] s.heap := fun k q h => by simp at h
  have hD : va_D (lA s) [] := ⟨fun i j p q h => by simp at h, fun k q h => by simp at h⟩
  have hl := lv_entry ([.ref b]) (n := 7) (Nat.le_of_ble_eq_true rfl)
  rw [lg_entry_eq]
  generalize (lg_sl ([.ref b]) ++ List.replicate (7 - (lg_sl ([.ref b])).length) Slot.unset).toArray = ls at hl ⊢
  have hl : lv_has ls 7 [(0, .ref b)] := hl
  refine va_new (ci := 11) (fs := [.null, .null, .null, .null, .null, .null, .null, .null, .null, .null, .null, .null, .null, .null, .null, .null]) (C := RX11) (T := TX11) (N := 16) hx hb hts ju_11 tyX11 tyX11_ok hown (hts _ kw_126) (hts _ kw_127) (hts _ kw_105) hK hP hD hS hA rfl dv_11 (Nat.le_of_ble_eq_true rfl) (Nat.le_of_ble_eq_true rfl) dL_law_0 (fun q0 H hP hD hS => ?_)
  refine lv_dup hx hb dL_law_3 rfl ?_
  refine k_init (n := 0) (e0 := .inr (11, [.null, .null, .null, .null, .null, .null, .null, .null, .null, .null, .null, .null, .null, .null, .null, .null])) (As := []) (rest := [.ref q0]) (wr := []) hx hb hml hown hts hK hO hN hP hD hS hA (ci_X11 l hmna D cA q0) kw_130 kw_105 kw_128 kw_129 rfl rfl rfl ⟨by decide, by decide, by decide +kernel⟩ ⟨Nat.le_of_ble_eq_true rfl, Nat.le_of_ble_eq_true rfl⟩ rfl hl.1 (Nat.le_of_ble_eq_true rfl) dL_law_4 ⟨Nat.le_of_ble_eq_true rfl, Nat.le_of_ble_eq_true rfl⟩ (fun w1 H locs hw hP hD hS => ?_)
  obtain ⟨a1, ha1, hP1, hD1⟩ := ci_X11_lay hw (k_right hP) (k_own hD)
  have hD : va_D (lA s) (kL cA a1 0 69) := k_mix (wr := []) hD hD1
  have hP : va_P D vwCl (kL cA a1 0 69) H := hP1
  refine lv_astore_n (lv' := [(1, .ref q0), (0, .ref b)]) hx hb dL_law_7 rfl hl (by decide) rfl (fun ls hl => ?_)
  refine va_new (ci := 12) (fs := [.null, .int 0, .null, .null, .null, .null, .int 0, .null, .null, .int 0, .int 0, .int 0, .null, .int 0, .null, .null, .null, .int 0, .null, .int 0, .int 0, .null, .int 0, .int 0, .int 0, .int 0, .null, .int 0, .int 0, .int 0, .int 0, .int 0, .int 0, .int 0, .int 0, .null, .null, .null, .null, .int 0, .null, .null, .null, .null, .null, .null, .null, .null, .null, .int 0, .null, .null, .null]) (C := RX12) (T := TX12) (N := 53) hx hb hts ju_12 tyX12 tyX12_ok hown (hts _ kw_1425) (hts _ kw_1426) (hts _ kw_118) hK hP hD hS hA rfl dv_12 (Nat.le_of_ble_eq_true rfl) (Nat.le_of_ble_eq_true rfl) dL_law_8 (fun q1 H hP hD hS => ?_)
  refine lv_dup hx hb dL_law_11 rfl ?_
  refine k_init (n := 0) (e0 := .inr (12, [.null, .int 0, .null, .null, .null, .null, .int 0, .null, .null, .int 0, .int 0, .int 0, .null, .int 0, .null, .null, .null, .int 0, .null, .int 0, .int 0, .null, .int 0, .int 0, .int 0, .int 0, .null, .int 0, .int 0, .int 0, .int 0, .int 0, .int 0, .int 0, .int 0, .null, .null, .null, .null, .int 0, .null, .null, .null, .null, .null, .null, .null, .null, .null, .int 0, .null, .null, .null])) (As := []) (rest := [.ref q1]) (wr := kL cA a1 0 69) hx hb hml hown hts hK hO hN hP hD hS hA (ci_X12 l D cA q1) kw_1429 kw_118 kw_1427 kw_1428 rfl rfl rfl ⟨by decide, by decide, by decide +kernel⟩ ⟨Nat.le_of_ble_eq_true rfl, Nat.le_of_ble_eq_true rfl⟩ rfl hl.1 (Nat.le_of_ble_eq_true rfl) dL_law_12 ⟨Nat.le_of_ble_eq_true rfl, Nat.le_of_ble_eq_true rfl⟩ (fun w2 H locs hw hP hD hS => ?_)
  obtain ⟨a2, ha2, hP2, hD2⟩ := ci_X12_lay hw (k_right hP) (k_own hD)
  have hD : va_D (lA s) (kL cA a1 0 69 ++ kL cA a2 69 30) := k_mix hD hD2
  have hP : va_P D vwCl (kL cA a1 0 69 ++ kL cA a2 69 30) H := (k_left hP).app hP2
  refine lv_astore_n (lv' := [(2, .ref q1), (1, .ref q0), (0, .ref b)]) hx hb dL_law_15 rfl hl (by decide) rfl (fun ls hl => ?_)
  refine lv_iconst (v := 1) hx hb dL_law_16 (by decide) ?_
  refine k_newa (atype := .long) (ty := .long) (a0 := (1, .inr (.inl (fun _ => 0)))) hx hb (hts _ kw_1592) rfl hK hP hD hS hA 3 23 rfl (fun _ => rfl) (by decide) (by decide) (Nat.le_of_ble_eq_true rfl) (Nat.le_of_ble_eq_true rfl) (Nat.le_of_ble_eq_true rfl) dL_law_17 (fun q2 H hP hD hS => ?_)
  rw [List.append_assoc] at hP hD
  obtain ⟨hP, hD⟩ := k_all hP hD
  have hinj := jws_inj hD
  have hge : ∀ i, i < 100 → s.heap.size ≤ kad a1 a2 q2 i := fun i hi => jws_A hD hi
  have hjA : ∀ q, jA (kad a1 a2 q2) q → s.heap.size ≤ q := fun q ⟨i, hi, hq⟩ => by rw [hq]; exact hge i hi
  refine lv_astore_n (lv' := [(3, .ref q2), (2, .ref q1), (1, .ref q0), (0, .ref b)]) hx hb dL_law_19 rfl hl (by decide) rfl (fun ls hl => ?_)
  refine lv_iconst (v := Int32.ofInt 0) hx hb dL_law_20 (by decide) ?_
  refine lv_istore (lv' := [(4, .int (Int32.ofInt 0)), (3, .ref q2), (2, .ref q1), (1, .ref q0), (0, .ref b)]) hx hb dL_law_21 hl (by decide) rfl (fun ls hl => ?_)
  have z0 : kad a1 a2 q2 0 = q0 := ha1
  have z69 : kad a1 a2 q2 69 = q1 := ha2
  have z99 : kad a1 a2 q2 99 = q2 := rfl
  have hl5 : lv_has ls 7 (lLv b (kad a1 a2 q2) (Int32.ofInt (5 * ((0 : Nat) : Int)))) := by
    unfold lLv
    rw [z0, z69, z99]
    exact lv_sub hl [4, 3, 2, 1, 0] rfl
  refine law_loop (L := L) (xs := xs) (D := D) (cA := cA) (ad := kad a1 a2 q2) ⟨hx, hb, hml, hown, hts, hK, hinj, hge, hX, hbl, by unfold Launch.stackTraces; rw [hflags]; decide, hcst, hdcl, hzU _ hjA, hzS _ hjA⟩ hL (fun H locs ls cells slots hc hS => ?_) 512 0 rfl mu0 H _ ls _ _ ⟨si_mu0, mu0_ok, hP, hS, hl5⟩ ⟨Nat.le_of_ble_eq_true rfl, Nat.le_of_ble_eq_true rfl⟩
  refine W.widen (k := 601024) (n := 7293034) hc.1 hc.2 ?_
  refine va_forget hS.2.2 ?_
  refine lv_iconst (v := 1) hx hb dL_law_1696 (by decide) ?_
  exact lw_ret hx hb hr hlocks dL_law_1697
