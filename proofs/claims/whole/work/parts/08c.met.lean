theorem jnth_none : ∀ (n i : Nat), jnth (List.replicate n none) i = none
  | 0, _ => rfl
  | _ + 1, 0 => rfl
  | n + 1, i + 1 => jnth_none n i
theorem j_ent_lg (ad : Nat → Nat) : ∀ (as : jSt), (∀ v ∈ as, jisL (some v) = false) → (lg_sl (as.map (jemb ad))).length = as.length
  | [], _ => rfl
  | v :: as, h => by
    have h1 := h v List.mem_cons_self
    have ih := j_ent_lg ad as (fun x hx => h x (List.mem_cons_of_mem _ hx))
    have hc : ¬ (jemb ad v).category = 2 := fun z => by
      rw [(jcat_l ad v).mp z] at h1
      cases h1
    unfold lg_sl at ih ⊢
    rw [List.map_cons, List.flatMap_cons, if_neg hc, List.length_append, ih]
    simp only [List.length_cons, List.length_nil]
    omega
theorem j_ent_args (ad : Nat → Nat) : ∀ (as : jSt) (k n i : Nat) (v : jV), (∀ v ∈ as, jisL (some v) = false) → jnth (as.map some ++ List.replicate n none) i = some v → (k + i, jemb ad v) ∈ lv_args k (as.map (jemb ad))
  | [], _, n, i, v, _, h => by
    rw [List.map_nil, List.nil_append, jnth_none] at h
    cases h
  | w :: as, k, n, 0, v, hn, h => by
    have h : some w = some v := h
    cases h
    exact List.mem_cons_self
  | w :: as, k, n, i + 1, v, hn, h => by
    have h1 := hn w List.mem_cons_self
    have hc : ¬ (jemb ad w).category = 2 := fun z => by
      rw [(jcat_l ad w).mp z] at h1
      cases h1
    have ih := j_ent_args ad as (k + 1) n i v (fun x hx => hn x (List.mem_cons_of_mem _ hx)) h
    show _ ∈ (k, jemb ad w) :: lv_args (if (jemb ad w).category = 2 then k + 2 else k + 1) (as.map (jemb ad))
    rw [if_neg hc]
    refine List.mem_cons_of_mem _ ?_
    have e : k + (i + 1) = k + 1 + i := by omega
    rw [e]
    exact ih
theorem j_ent_ok : ∀ (as : jSt) (n i : Nat) (v : jV), jnth (as.map some ++ List.replicate n none) i = some v → v ∈ as
  | [], n, i, v, h => by
    rw [List.map_nil, List.nil_append, jnth_none] at h
    cases h
  | w :: as, n, 0, v, h => by
    have h : some w = some v := h
    cases h
    exact List.mem_cons_self
  | w :: as, n, i + 1, v, h => List.mem_cons_of_mem _ (j_ent_ok as n i v h)
theorem CL_inv {d n : Nat} {q : jIm} {as : jSt} {μ : jM} {o : jO} (hq : jIs[n]? = some q) (h : CL (d + 1) n as μ = some o) : (∀ v ∈ as, jisL (some v) = false) ∧ as.length ≤ q.2.2.1 ∧ ∃ N, jn q.2.2.2.2.1 (CL d) N 0 (as.map some ++ List.replicate (q.2.2.1 - as.length) none) [] μ = some o := by
  have hm : jMs[n]? = some (q.2.2.2.2.1, q.2.2.1) := by
    rw [jIs_Ms, List.getElem?_map, hq]
    rfl
  have h : jCL jMs (d + 1) n as μ = some o := h
  unfold jCL at h
  rw [hm] at h
  dsimp only at h
  obtain ⟨h1, h2⟩ := cd_some h
  rw [Bool.and_eq_true] at h1
  refine ⟨fun v hv => ?_, Nat.le_of_ble_eq_true h1.2, (EVc_iff _ _ _ _ _ _ _).mp h2⟩
  have h3 := List.all_eq_true.mp h1.1 v hv
  simpa using h3
section MT
variable {p : Program} {l : Launch} {e : Env} {R : Room} {s : State} {m : MethodId} {args : Array Value} {below : List Frame} {meth : Method} {c : Code} {Q : State → Prop} {cc : ByteArray} {own : String} {nL : Nat} {D : va_G} {cA : Nat → ClassId} {ad : Nat → Nat}
/-- from any of a method's labels to its ends -/
theorem jn_snd {d : Nat} (hx : p.tables.exec = Jvm.exec) (hb : c.code = cc) (hml : c.maxLocals = nL) (hown : s.vm.findClass own = some m.cls) (hts : ∀ w ∈ jTs, w.before args s = true) (hK : va_K D vwCl (jtys cA) s) (hinj : ∀ i j, i < 100 → j < 100 → ad i = ad j → i = j) (hR : d + 1 ≤ R.frames) (hRl : 70 * (d + 1) ≤ R.locals) (hM : jMet l D cA ad d) (hIs : ∀ q ∈ jIs, jMok q)
    {T : jT} {ret : Option FieldType} {o : jO}
    (hRI : ∀ (pc : Nat) (x : Int) (μ : jM) (H : Heap) (locs : List Loc) (ls : Array Slot), decode cc pc = .ok (.ireturn, 1) → (ret = some .int ∨ ret = some .boolean ∧ (x = 0 ∨ x = 1)) → o = (some (some (jI x)), μ) → j32 x → jokM μ → va_P D vwCl (jws cA ad μ) H → va_S (jA ad) s.heap H locs → W p l e R s m args below meth c H locs 0 0 Q (F0 m pc ls [.int (Int32.ofInt x)]))
    (hRL : ∀ (pc : Nat) (x : Int) (μ : jM) (H : Heap) (locs : List Loc) (ls : Array Slot), decode cc pc = .ok (.lreturn, 1) → ret = some .long → o = (some (some (jL x)), μ) → j64 x → jokM μ → va_P D vwCl (jws cA ad μ) H → va_S (jA ad) s.heap H locs → W p l e R s m args below meth c H locs 0 0 Q (F0 m pc ls [.long (Int64.ofInt x)]))
    (hRV : ∀ (pc : Nat) (μ : jM) (H : Heap) (locs : List Loc) (ls : Array Slot), decode cc pc = .ok (.return_, 1) → ret = none → o = (some none, μ) → jokM μ → va_P D vwCl (jws cA ad μ) H → va_S (jA ad) s.heap H locs → W p l e R s m args below meth c H locs 0 0 Q (F0 m pc ls []))
    (hRT : ∀ (a b c0 h pc : Nat) (μ : jM) (H : Heap) (locs : List Loc) (ls : Array Slot), (Instr.athrow, a, b, c0, h, pc) ∈ T.1 → o = (none, μ) → jokM μ → ls.size = nL → va_P D vwCl (jws cA ad μ) H → va_S (jA ad) s.heap H locs → W p l e R s m args below meth c H locs 0 0 Q (F0 m pc ls []))
    (hwd : ∀ e ∈ T.1, ∀ x ∈ jwc own cc e, x ∈ jTs) (hcks : jcks own cc nL ret T T.1 = true) :
    ∀ (N L : Nat) (lv : jLs) (st : jSt) (μ : jM) (H : Heap) (locs : List Loc) (ls : Array Slot), jn T (CL d) N L lv st μ = some o → jRel D cA ad s nL lv st μ H locs ls → W p l e R s m args below meth c H locs 0 0 Q (F0 m (jpc (jcode T L)) ls (st.map (jemb ad)))
  | 0, _, _, _, _, _, _, _, h, _ => by cases h
  | N + 1, L, lv, st, μ, H, locs, ls, h, hr => by
    have ih := jn_snd hx hb hml hown hts hK hinj hR hRl hM hIs hRI hRL hRV hRT hwd hcks N
    refine jB_snd hx hb hml hown hts hK hinj hR hRl hM hIs (T := T) (J := fun L' lv' st' μ' => jn T (CL d) N L' (jlive T L' lv') st' μ') ?_ hRI hRL hRV hRT hwd 400 (jcode T L) lv st μ H locs ls (fun x hx => List.mem_of_mem_drop hx) (jcks_drop _ hcks) h hr
    intro L' lv' st' μ' H' locs' ls' h' hl' hr'
    have hl : (T.2.getD L' ([], 0)).1.length = nL := by simpa [jlok] using hl'
    exact ih L' (jlive T L' lv') st' μ' H' locs' ls' h' ⟨jmk_rl _ hl hr'.1, jmk_ok _ hr'.2.1, hr'.2.2⟩
/-- the start of a method -/
theorem j_ent {as : jSt} {μ : jM} (hn : ∀ v ∈ as, jisL (some v) = false) (hle : as.length ≤ nL) (hoS : jokS as) (hoM : jokM μ) (hP : va_P D vwCl (jws cA ad μ) s.heap) : ∃ ls, entryFrame m (as.map (jemb ad)).toArray nL = F0 m 0 ls [] ∧ jRel D cA ad s nL (as.map some ++ List.replicate (nL - as.length) none) [] μ s.heap [] ls := by
  refine ⟨_, lg_entry_eq m _ nL, ?_⟩
  have hl := lv_entry (as.map (jemb ad)) (n := nL) (by rw [j_ent_lg ad as hn]; exact hle)
  refine ⟨⟨by simp; omega, hl.1, hl.2.1, fun i v h => ?_⟩, fun i v h => hoS v (j_ent_ok _ _ _ _ h), fun v hv => (by cases hv), hP, va_S.rf, hoM⟩
  have h2 := j_ent_args ad as 0 _ i v hn h
  rw [Nat.zero_add] at h2
  exact hl.2.2 _ h2
end MT
set_option maxHeartbeats 4000000 in
theorem j_met (l : Launch) (D : va_G) (cA : Nat → ClassId) (ad : Nat → Nat) (hinj : ∀ i j, i < 100 → j < 100 → ad i = ad j → i = j) (hIs : ∀ q ∈ jIs, jMok q) : ∀ d, jMet l D cA ad d
  | 0 => fun n q as μ o hq h => by cases h
  | d + 1 => by
    have ih := j_met l D cA ad hinj hIs d
    intro n q as μ o hq h hne hlen hoS hoM
    obtain ⟨o1, o2, o3, o4, o5, o6, o7, o8, o9, o10⟩ := hIs q (List.mem_of_getElem? hq)
    obtain ⟨hn, hle, N, hN⟩ := CL_inv hq h
    refine Met.ofW (cc := q.2.1) (maxL := q.2.2.1) (ret := q.2.2.2.1) o1 rfl ?_
    intro p e s m args below meth c s₁ B hml hv
    obtain ⟨rfl, hP, hK⟩ := hv
    have hx := B.exec
    have hb := B.bytes
    have hr := B.returns
    have hts0 := atoms_spec (ws := jWs q) B.pre
    have hts : ∀ w ∈ jTs, w.before _ s = true := fun w hw => hts0 w (List.mem_cons_of_mem _ hw)
    have hown : s.vm.findClass q.1.cls = some m.cls := findClass_of_methodNamed B.named
    have hlocks : meth.locks = false := B.notSynchronized
    obtain ⟨ls, he, hrel⟩ := j_ent (D := D) (cA := cA) (ad := ad) (s := s) (m := m) (nL := q.2.2.1) hn hle hoS hoM hP
    rw [he]
    have fin := jn_snd (Q := MQ below (jQ D cA ad o) (as.map (jemb ad)).toArray s 0 0 (jA ad)) (R := (headSpec (jWs q) (jRm (d + 1))).room) (p := p) (e := e) (below := below) (meth := meth) (o := o) (T := q.2.2.2.2.1) hx hb hml hown hts hK hinj (Nat.le_refl (d + 1)) (Nat.le_refl (70 * (d + 1))) ih hIs (ret := q.2.2.2.1) ?_ ?_ ?_ ?_ o3 o2 N 0 _ [] μ s.heap [] ls hN hrel
    · rw [o5] at fin
      exact fin
    · intro pc x μ' H locs ls' hdec hret ho hx9 hM9 hP9 hS9
      subst ho
      have hq9 : ∀ t : State, t.heap = H → s.WarmedH t.vm → jQ D cA ad (some (some (jI x)), μ') (as.map (jemb ad)).toArray s (.returned (some (.int (Int32.ofInt x)))) t := fun t ht _ => ⟨rfl, by rw [ht]; exact hP9, hS9.F ht, hM9, fun v hv => by cases hv; exact hx9⟩
      rcases hret with z | ⟨z, hz⟩
      · exact W.iret hx hb (hr.trans z) hq9 hS9.2.2 hdec hlocks
      · exact W.zret hx hb (hr.trans z) (o_boolN hz) hq9 hS9.2.2 hdec hlocks
    · intro pc x μ' H locs ls' hdec hret ho hx9 hM9 hP9 hS9
      subst ho
      exact W.lret hx hb (hr.trans hret) (fun t ht _ => ⟨rfl, by rw [ht]; exact hP9, hS9.F ht, hM9, fun v hv => by cases hv; exact hx9⟩) hS9.2.2 hdec hlocks
    · intro pc μ' H locs ls' hdec hret ho hM9 hP9 hS9
      subst ho
      exact W.vret hx hb (hr.trans hret) (fun t ht _ => ⟨rfl, by rw [ht]; exact hP9, hS9.F ht, hM9, fun v hv => by cases hv⟩) hS9.2.2 hdec hlocks
    · intro a b c0 h0 pc μ' H locs ls' hmem ho
      subst ho
      exact absurd rfl hne
