def jctl : Instr → Bool
  | .nop => true
  | .goto _ => true
  | .ifCond _ _ => true
  | .if_icmp _ _ => true
  | .lookupswitch _ _ => true
  | .invokevirtual _ => true
  | .invokestatic _ => true
  | .ireturn => true
  | .lreturn => true
  | .return_ => true
  | .athrow => true
  | _ => false
theorem jB_ctl {J : Nat → jLs → jSt → jM → Option jO} {C : Nat → jSt → jM → Option jO} {n : Nat} {i : Instr} {a b c h pc : Nat} {is : List jIn} {lv : jLs} {st : jSt} {μ : jM} (hc : jctl i = false) : jB J C (n + 1) ((i, a, b, c, h, pc) :: is) lv st μ = j1 i a b lv st μ (fun lv st μ => jB J C n is lv st μ) := by
  cases i <;> first | rfl | cases hc
theorem jck_ctl {own : String} {cc : ByteArray} {nL : Nat} {ret : Option FieldType} {T : jT} {i : Instr} {a b c h pc : Nat} {is : List jIn} (hc : jctl i = false) (hk : jck own cc nL ret T (i, a, b, c, h, pc) is = true) : ∃ raw len, decode cc pc = .ok (raw, len) ∧ jmt nL i a b raw len = true ∧ jpc is = pc + len ∧ jwc own cc (i, a, b, c, h, pc) = jwd own i a b raw := by
  have key : (match decode cc pc with
      | .error _ => false
      | .ok (raw, len) => jmt nL i a b raw len && decide (jpc is = pc + len)) = true := by
    rw [← hk]
    cases i <;> first | rfl | cases hc
  cases hd : decode cc pc with
  | error er =>
    rw [hd] at key
    cases key
  | ok rl =>
    obtain ⟨raw, len⟩ := rl
    rw [hd] at key
    have key : (jmt nL i a b raw len && decide (jpc is = pc + len)) = true := key
    rw [Bool.and_eq_true, decide_eq_true_eq] at key
    refine ⟨raw, len, rfl, key.1, key.2, ?_⟩
    have k2 : jwc own cc (i, a, b, c, h, pc) = (match decode cc pc with
      | .error _ => []
      | .ok (raw, _) => jwd own i a b raw) := by
      cases i <;> first | rfl | cases hc
    rw [k2, hd]
theorem jret_some {c : Nat} {x : Option jO} {st : jSt} {k : jSt → jM → Option jO} {o : jO} (h : jret c x st k = some o) : ∃ o1 : jO, x = some o1 ∧ o1.1 ≠ none ∧ ∃ r, o1.1 = some r ∧ k (r.toList ++ st) o1.2 = some o := by
  match c with
  | 0 =>
    have h : bV x (fun μ => k st μ) = some o := h
    unfold bV at h
    split at h
    · exact ⟨_, rfl, (fun z => by cases z), _, rfl, h⟩
    · cases h
  | 1 =>
    have h : bI x (fun x μ => k (jI x :: st) μ) = some o := h
    unfold bI at h
    split at h
    · exact ⟨_, rfl, (fun z => by cases z), _, rfl, h⟩
    · cases h
  | _ + 2 =>
    have h : bL x (fun x μ => k (jL x :: st) μ) = some o := h
    unfold bL at h
    split at h
    · exact ⟨_, rfl, (fun z => by cases z), _, rfl, h⟩
    · cases h
section JB
variable {p : Program} {l : Launch} {e : Env} {R : Room} {s : State} {m : MethodId} {args : Array Value} {below : List Frame} {meth : Method} {c : Code} {Q : State → Prop} {cc : ByteArray} {own : String} {nL : Nat} {D : va_G} {cA : Nat → ClassId} {ad : Nat → Nat}
set_option maxHeartbeats 8000000 in
set_option maxRecDepth 100000 in
theorem jB_snd {d : Nat} (hx : p.tables.exec = Jvm.exec) (hb : c.code = cc) (hml : c.maxLocals = nL) (hown : s.vm.findClass own = some m.cls) (hts : ∀ w ∈ jTs, w.before args s = true) (hK : va_K D vwCl (jtys cA) s) (hinj : ∀ i j, i < 100 → j < 100 → ad i = ad j → i = j) (hR : d + 1 ≤ R.frames) (hRl : 70 * (d + 1) ≤ R.locals) (hM : jMet l D cA ad d) (hIs : ∀ q ∈ jIs, jMok q)
    {T : jT} {ret : Option FieldType} {J : Nat → jLs → jSt → jM → Option jO} {o : jO}
    (hJ : ∀ (L : Nat) (lv : jLs) (st : jSt) (μ : jM) (H : Heap) (locs : List Loc) (ls : Array Slot), J L lv st μ = some o → jlok T nL L = true → jRel D cA ad s nL lv st μ H locs ls → W p l e R s m args below meth c H locs 0 0 Q (F0 m (jpc (jcode T L)) ls (st.map (jemb ad))))
    (hRI : ∀ (pc : Nat) (x : Int) (μ : jM) (H : Heap) (locs : List Loc) (ls : Array Slot), decode cc pc = .ok (.ireturn, 1) → (ret = some .int ∨ ret = some .boolean ∧ (x = 0 ∨ x = 1)) → o = (some (some (jI x)), μ) → j32 x → jokM μ → va_P D vwCl (jws cA ad μ) H → va_S (jA ad) s.heap H locs → W p l e R s m args below meth c H locs 0 0 Q (F0 m pc ls [.int (Int32.ofInt x)]))
    (hRL : ∀ (pc : Nat) (x : Int) (μ : jM) (H : Heap) (locs : List Loc) (ls : Array Slot), decode cc pc = .ok (.lreturn, 1) → ret = some .long → o = (some (some (jL x)), μ) → j64 x → jokM μ → va_P D vwCl (jws cA ad μ) H → va_S (jA ad) s.heap H locs → W p l e R s m args below meth c H locs 0 0 Q (F0 m pc ls [.long (Int64.ofInt x)]))
    (hRV : ∀ (pc : Nat) (μ : jM) (H : Heap) (locs : List Loc) (ls : Array Slot), decode cc pc = .ok (.return_, 1) → ret = none → o = (some none, μ) → jokM μ → va_P D vwCl (jws cA ad μ) H → va_S (jA ad) s.heap H locs → W p l e R s m args below meth c H locs 0 0 Q (F0 m pc ls []))
    (hRT : ∀ (a b c0 h pc : Nat) (μ : jM) (H : Heap) (locs : List Loc) (ls : Array Slot), (Instr.athrow, a, b, c0, h, pc) ∈ T.1 → o = (none, μ) → jokM μ → ls.size = nL → va_P D vwCl (jws cA ad μ) H → va_S (jA ad) s.heap H locs → W p l e R s m args below meth c H locs 0 0 Q (F0 m pc ls []))
    (hwd : ∀ e ∈ T.1, ∀ x ∈ jwc own cc e, x ∈ jTs) :
    ∀ (n : Nat) (is : List jIn) (lv : jLs) (st : jSt) (μ : jM) (H : Heap) (locs : List Loc) (ls : Array Slot), (∀ e ∈ is, e ∈ T.1) → jcks own cc nL ret T is = true → jB J (CL d) n is lv st μ = some o → jRel D cA ad s nL lv st μ H locs ls → W p l e R s m args below meth c H locs 0 0 Q (F0 m (jpc is) ls (st.map (jemb ad)))
  | 0, _, _, _, _, _, _, _, _, _, h, _ => by cases h
  | _ + 1, [], _, _, _, _, _, _, _, _, h, _ => by cases h
  | n + 1, (i, a, b, c0, h0, pc) :: is, lv, st, μ, H, locs, ls, hsub, hcks, h, hr => by
    have ih := jB_snd hx hb hml hown hts hK hinj hR hRl hM hIs hJ hRI hRL hRV hRT hwd n
    have hcks : (jck own cc nL ret T (i, a, b, c0, h0, pc) is && jcks own cc nL ret T is) = true := hcks
    rw [Bool.and_eq_true] at hcks
    obtain ⟨hck, hkr⟩ := hcks
    have hmem : (i, a, b, c0, h0, pc) ∈ T.1 := hsub _ List.mem_cons_self
    have hwm := hwd _ hmem
    have hsub2 : ∀ e ∈ is, e ∈ T.1 := fun x hx => hsub x (List.mem_cons_of_mem _ hx)
    have hoS := hr.2.2.1
    have hP := hr.2.2.2.1
    have hS := hr.2.2.2.2.1
    have hM2 := hr.2.2.2.2.2
    have hls : ls.size = nL := hr.1.2.1
    show W p l e R s m args below meth c H locs 0 0 Q (F0 m pc ls (st.map (jemb ad)))
    have goOn : ∀ (st' : jSt) (μ' : jM) (H' : Heap) (locs' : List Loc) (k : Nat), jB J (CL d) n (is.drop k) lv st' μ' = some o → jRel D cA ad s nL lv st' μ' H' locs' ls → W p l e R s m args below meth c H' locs' 0 0 Q (F0 m (jpc (is.drop k)) ls (st'.map (jemb ad))) := fun st' μ' H' locs' k h9 hr9 => ih (is.drop k) lv st' μ' H' locs' ls (fun x hx => hsub2 x (List.mem_of_mem_drop hx)) (jcks_drop k hkr) h9 hr9
    have goT : ∀ (st' : jSt), (bif Nat.beq a 0 then jB J (CL d) n (is.drop b) lv st' μ else J b lv st' μ) = some o → (Nat.beq a 0 = true ∨ jlok T nL b = true) → jokS st' → W p l e R s m args below meth c H locs 0 0 Q (F0 m (jtg T is a b) ls (st'.map (jemb ad))) := by
      intro st' h9 hl9 hs9
      unfold jtg
      cases ha : Nat.beq a 0 with
      | true =>
        rw [ha] at h9
        exact goOn st' μ H locs b h9 (jRel_st hr hs9)
      | false =>
        rw [ha] at h9 hl9
        exact hJ b lv st' μ H locs ls h9 (by rcases hl9 with z | z; cases z; exact z) (jRel_st hr hs9)
    cases hc : jctl i with
    | false =>
      rw [jB_ctl hc] at h
      obtain ⟨raw, len, hdec, hmt, hpc, hww⟩ := jck_ctl hc hck
      rw [hww] at hwm
      refine j1_snd hx hb hml hown hts hK hinj (by omega) (by omega) hdec hmt hwm h hr fun lv' st' μ' H' locs' ls' h' hr' => ?_
      rw [← hpc]
      exact ih is lv' st' μ' H' locs' ls' hsub2 hkr h' hr'
    | true =>
      cases i <;> first | (cases hc; done) | skip
      case nop =>
        have hck : (decide (jpc (jcode T a) = pc) && jlok T nL a) = true := hck
        rw [Bool.and_eq_true, decide_eq_true_eq] at hck
        rw [← hck.1]
        exact hJ a lv st μ H locs ls h hck.2 hr
      case athrow =>
        unfold jB at h
        dsimp only at h
        split at h
        · cases h
          exact hRT _ _ _ _ _ μ H locs ls hmem rfl hM2 hls hP hS
        · cases h
      case goto x =>
        unfold jck at hck
        dsimp only at hck
        split at hck
        · cases hck
        · rename_i raw len hdec
          split at hck
          · simp only [Bool.and_eq_true, Bool.or_eq_true, decide_eq_true_eq] at hck
            obtain ⟨⟨rfl, ht⟩, hlab⟩ := hck
            exact lv_goto hx hb hdec ht (goT st h hlab hoS)
          · cases hck
      case ifCond q x =>
        unfold jck at hck
        dsimp only at hck
        split at hck
        · cases hck
        · rename_i raw len hdec
          split at hck
          · simp only [Bool.and_eq_true, Bool.or_eq_true, decide_eq_true_eq] at hck
            obtain ⟨⟨rfl, rfl, ht, hpc⟩, hlab⟩ := hck
            unfold jB at h
            dsimp only at h
            split at h
            · rename_i q' off _ y st
              have KT := fun z => goT st z hlab (jokS_t hoS)
              have KF := fun z => goOn st μ H locs 0 z (jRel_st hr (jokS_t hoS))
              have hpc2 : jpc (is.drop 0) = pc + 3 := hpc
              rw [hpc2] at KF
              have hy : j32 y := jokS_h hoS
              cases q' <;> simp only [jc] at h
              · refine lv_if_eq hx hb hdec ht (fun z => KT ?_) (fun z => KF ?_)
                · rwa [if_pos ((o_eq hy o_z32).mp z)] at h
                · rwa [if_neg (fun z2 => z ((o_eq hy o_z32).mpr z2))] at h
              · refine lv_if_ne hx hb hdec ht (fun z => KT ?_) (fun z => KF ?_)
                · rwa [if_neg (fun z2 => z ((o_eq hy o_z32).mpr z2))] at h
                · rwa [if_pos ((o_eq hy o_z32).mp z)] at h
              · refine lv_if_lt hx hb hdec ht (fun z => KT ?_) (fun z => KF ?_)
                · rwa [if_pos ((o_lt hy o_z32).mp z)] at h
                · rwa [if_neg (fun z2 => z ((o_lt hy o_z32).mpr z2))] at h
              · refine lv_if_ge hx hb hdec ht (fun z => KT ?_) (fun z => KF ?_)
                · have := (o_le o_z32 hy).mp z
                  rwa [if_neg (by omega)] at h
                · have : ¬ 0 ≤ y := fun z2 => z ((o_le o_z32 hy).mpr z2)
                  rwa [if_pos (by omega)] at h
              · refine lv_if_gt hx hb hdec ht (fun z => KT ?_) (fun z => KF ?_)
                · rwa [if_pos ((o_lt o_z32 hy).mp z)] at h
                · rwa [if_neg (fun z2 => z ((o_lt o_z32 hy).mpr z2))] at h
              · refine lv_if_le hx hb hdec ht (fun z => KT ?_) (fun z => KF ?_)
                · have := (o_le hy o_z32).mp z
                  rwa [if_neg (by omega)] at h
                · have : ¬ y ≤ 0 := fun z2 => z ((o_le hy o_z32).mpr z2)
                  rwa [if_pos (by omega)] at h
            · cases h
          · cases hck
      case if_icmp q x =>
        unfold jck at hck
        dsimp only at hck
        split at hck
        · cases hck
        · rename_i raw len hdec
          split at hck
          · simp only [Bool.and_eq_true, Bool.or_eq_true, decide_eq_true_eq] at hck
            obtain ⟨⟨rfl, rfl, ht, hpc⟩, hlab⟩ := hck
            unfold jB at h
            dsimp only at h
            split at h
            · rename_i q' off _ y x st
              have KT := fun z => goT st z hlab (jokS_t (jokS_t hoS))
              have KF := fun z => goOn st μ H locs 0 z (jRel_st hr (jokS_t (jokS_t hoS)))
              have hpc2 : jpc (is.drop 0) = pc + 3 := hpc
              rw [hpc2] at KF
              have hy : j32 y := jokS_h hoS
              have hx9 : j32 x := jokS_h (jokS_t hoS)
              cases q' <;> simp only [jc] at h
              · refine lv_icmp_eq hx hb hdec ht (fun z => KT ?_) (fun z => KF ?_)
                · rwa [if_pos ((o_eq hx9 hy).mp z)] at h
                · rwa [if_neg (fun z2 => z ((o_eq hx9 hy).mpr z2))] at h
              · refine lv_icmp_ne hx hb hdec ht (fun z => KT ?_) (fun z => KF ?_)
                · rwa [if_neg (fun z2 => z ((o_eq hx9 hy).mpr z2))] at h
                · rwa [if_pos ((o_eq hx9 hy).mp z)] at h
              · refine lv_icmp_lt hx hb hdec ht (fun z => KT ?_) (fun z => KF ?_)
                · rwa [if_pos ((o_lt hx9 hy).mp z)] at h
                · rwa [if_neg (fun z2 => z ((o_lt hx9 hy).mpr z2))] at h
              · refine lv_icmp_ge hx hb hdec ht (fun z => KT ?_) (fun z => KF ?_)
                · have := (o_le hy hx9).mp z
                  rwa [if_neg (by omega)] at h
                · have : ¬ y ≤ x := fun z2 => z ((o_le hy hx9).mpr z2)
                  rwa [if_pos (by omega)] at h
              · refine lv_icmp_gt hx hb hdec ht (fun z => KT ?_) (fun z => KF ?_)
                · rwa [if_pos ((o_lt hy hx9).mp z)] at h
                · rwa [if_neg (fun z2 => z ((o_lt hy hx9).mpr z2))] at h
              · refine lv_icmp_le hx hb hdec ht (fun z => KT ?_) (fun z => KF ?_)
                · have := (o_le hx9 hy).mp z
                  rwa [if_neg (by omega)] at h
                · have : ¬ x ≤ y := fun z2 => z ((o_le hx9 hy).mpr z2)
                  rwa [if_pos (by omega)] at h
            · cases h
          · cases hck
      case lookupswitch dd ps =>
        unfold jB at h
        dsimp only at h
        split at h
        · rename_i x st
          have hx9 : j32 x := jokS_h hoS
          obtain ⟨t, e1, e2⟩ := jsw_sel (fun t => jB J (CL d) n (is.drop t.toNat) lv st μ) (fun t => ((jpc (is.drop t.toNat) : Nat) : Int)) dd x ps.toList
          rw [e1] at h
          have K := goOn st μ H locs t.toNat h (jRel_st hr (jokS_t hoS))
          unfold jck at hck
          dsimp only at hck
          split at hck
          · cases hck
          · rename_i raw len hdec
            split at hck
            · simp only [Bool.and_eq_true, decide_eq_true_eq] at hck
              obtain ⟨⟨hd, hl⟩, hz⟩ := hck
              refine lv_lookup (rest := st.map (jemb ad)) hx hb hdec hz (by rw [o_id hx9]) ?_ K
              rw [jsel_look, hl, hd, ← e2]
            · rename_i d' lo hi offs
              simp only [Bool.and_eq_true, decide_eq_true_eq] at hck
              obtain ⟨⟨hd, hhi⟩, hl⟩ := hck
              rw [← hl, ← hd, jsel_tab lo x (fun j => (pc : Int) + (offs.toList.getD j 0))] at e2
              by_cases hin : lo ≤ x ∧ x < lo + offs.size
              · rw [if_pos hin] at e2
                have ho : offs[(x - lo).toNat]? = some (offs.toList.getD (x - lo).toNat 0) := by
                  have hlt : (x - lo).toNat < offs.size := by omega
                  rw [List.getD_eq_getElem?_getD, Array.getElem?_toList, Array.getElem?_eq_getElem hlt]
                  rfl
                refine lv_tableIn (rest := st.map (jemb ad)) (off := offs.toList.getD (x - lo).toNat 0) hx hb hdec (by rw [o_id hx9]; omega) (by rw [o_id hx9]; omega) (by rw [o_id hx9]; exact ho) ?_ K
                rw [← e2]
              · rw [if_neg hin] at e2
                refine lv_tableOut (rest := st.map (jemb ad)) hx hb hdec (by rw [o_id hx9]; omega) ?_ K
                rw [← e2]
            · cases hck
        · cases h
      case invokevirtual y =>
        unfold jB at h
        dsimp only at h
        obtain ⟨h7, h⟩ := cd_some h
        rw [Bool.and_eq_true] at h7
        have hal : a ≤ st.length := Nat.le_of_ble_eq_true h7.1
        have hcat : jcat (st.drop a) ≤ 8 := Nat.le_of_ble_eq_true h7.2
        split at h
        · rename_i k as hst
          obtain ⟨hkd, h⟩ := cd_some h
          obtain ⟨o1, h1, h2, r, h3, h4⟩ := jret_some h
          unfold jck at hck
          dsimp only at hck
          split at hck
          · cases hck
          · rename_i raw len hdec
            split at hck
            · rename_i index
              split at hck
              · rename_i q hq
                simp only [Bool.and_eq_true, decide_eq_true_eq] at hck
                obtain ⟨⟨rfl, hpc, hstat, ha, hret⟩, hck⟩ := hck
                split at hck
                · rename_i rr hci
                  simp only [decide_eq_true_eq] at hck
                  have hww : Cond.methodLink own index q.1 ∈ jTs := by
                    apply hwm
                    unfold jwc
                    simp only [hdec, hq]
                    exact List.mem_cons_self
                  have hst2 : st = (jR k :: as).reverse ++ st.drop a := by
                    rw [← hst, List.reverse_reverse, List.take_append_drop]
                  have hlen : as.length = q.2.2.2.2.2.1 := by
                    have h8 := congrArg List.length hst
                    rw [List.length_reverse, List.length_take] at h8
                    simp only [List.length_cons] at h8
                    omega
                  have hoA : jokS (jR k :: as) := fun v hv => hoS v (by
                    rw [hst2]
                    exact List.mem_append_left _ (List.mem_reverse.mpr hv))
                  have hoR : jokS (st.drop a) := fun v hv => hoS v (List.mem_of_mem_drop hv)
                  have run := j_virt (R := R) (below := below) (meth := meth) (e := e) (locs := locs) (ls := ls) hx hb hml hown hts hK hR hRl hM hIs hq hstat hdec hww h1 h2 hlen hci hck (Nat.eq_of_beq_eq_true hkd) hoA hM2 hP hls hcat
                  rw [← hst2] at run
                  refine j_callW run hS fun H1 locs1 hok hP1 hS1 => ?_
                  rw [← hpc]
                  have e9 : ((o1.1.getD none).map (jemb ad)).toList ++ (st.drop a).map (jemb ad) = (r.toList ++ st.drop a).map (jemb ad) := by
                    rw [h3]
                    cases r <;> rfl
                  rw [e9]
                  exact ih is lv _ _ H1 locs1 ls hsub2 hkr h4 ⟨hr.1, hr.2.1, fun v hv => by
                    rcases List.mem_append.mp hv with z | z
                    · cases r with
                      | none => cases z
                      | some r => rw [List.mem_singleton.mp z]; exact hok.2 r h3
                    · exact hoR v z, hP1, hS1, hok.1⟩
                · cases hck
              · cases hck
            · cases hck
        · cases h
      case invokestatic y =>
        unfold jB at h
        dsimp only at h
        obtain ⟨h7, h⟩ := cd_some h
        rw [Bool.and_eq_true] at h7
        have hal : a ≤ st.length := Nat.le_of_ble_eq_true h7.1
        have hcat : jcat (st.drop a) ≤ 8 := Nat.le_of_ble_eq_true h7.2
        obtain ⟨o1, h1, h2, r, h3, h4⟩ := jret_some h
        unfold jck at hck
        dsimp only at hck
        split at hck
        · cases hck
        · rename_i raw len hdec
          split at hck
          · rename_i index
            split at hck
            · rename_i q hq
              simp only [decide_eq_true_eq] at hck
              obtain ⟨rfl, hpc, hstat, ha, hret⟩ := hck
              have hww : Cond.methodLink own index q.1 ∈ jTs := by
                apply hwm
                unfold jwc
                simp only [hdec, hq]
                exact List.mem_cons_self
              have hst2 : st = (st.take a).reverse.reverse ++ st.drop a := by
                rw [List.reverse_reverse, List.take_append_drop]
              have hlen : (st.take a).reverse.length = q.2.2.2.2.2.1 := by
                rw [List.length_reverse, List.length_take]
                omega
              have hoA : jokS (st.take a).reverse := fun v hv => hoS v (List.mem_of_mem_take (List.mem_reverse.mp hv))
              have hoR : jokS (st.drop a) := fun v hv => hoS v (List.mem_of_mem_drop hv)
              have run := j_stat (R := R) (below := below) (meth := meth) (e := e) (locs := locs) (ls := ls) hx hb hml hown hts hK hR hRl hM hIs hq hstat hdec hww h1 h2 hlen hoA hM2 hP hls hcat
              rw [← hst2] at run
              refine j_callW run hS fun H1 locs1 hok hP1 hS1 => ?_
              rw [← hpc]
              have e9 : ((o1.1.getD none).map (jemb ad)).toList ++ (st.drop a).map (jemb ad) = (r.toList ++ st.drop a).map (jemb ad) := by
                rw [h3]
                cases r <;> rfl
              rw [e9]
              exact ih is lv _ _ H1 locs1 ls hsub2 hkr h4 ⟨hr.1, hr.2.1, fun v hv => by
                rcases List.mem_append.mp hv with z | z
                · cases r with
                  | none => cases z
                  | some r => rw [List.mem_singleton.mp z]; exact hok.2 r h3
                · exact hoR v z, hP1, hS1, hok.1⟩
            · cases hck
          · cases hck
      case ireturn =>
        unfold jck at hck
        dsimp only at hck
        split at hck
        · cases hck
        · rename_i raw len hdec
          simp only [decide_eq_true_eq] at hck
          obtain ⟨rfl, rfl, hret⟩ := hck
          unfold jB at h
          dsimp only at h
          split at h
          · rename_i x
            cases ha : Nat.beq a 0 with
            | true =>
              rw [ha] at h
              have h : rI x μ = some o := h
              cases h
              have ha0 : a = 0 := Nat.eq_of_beq_eq_true ha
              refine hRI pc x μ H locs ls hdec (Or.inl ?_) rfl (jokS_h hoS) hM2 hP hS
              rcases hret with z | z
              · exact z.2
              · omega
            | false =>
              rw [ha] at h
              obtain ⟨hz, h⟩ := gd_some h
              cases h
              have ha0 : ¬ a = 0 := Nat.ne_of_beq_eq_false ha
              refine hRI pc x μ H locs ls hdec (Or.inr ⟨?_, hz⟩) rfl (jokS_h hoS) hM2 hP hS
              rcases hret with z | z
              · omega
              · exact z.2
          · cases h
      case lreturn =>
        unfold jck at hck
        dsimp only at hck
        split at hck
        · cases hck
        · rename_i raw len hdec
          simp only [decide_eq_true_eq] at hck
          obtain ⟨rfl, rfl, hret⟩ := hck
          unfold jB at h
          dsimp only at h
          split at h
          · rename_i x
            cases h
            exact hRL pc x μ H locs ls hdec hret rfl (jokS_h hoS) hM2 hP hS
          · cases h
      case return_ =>
        unfold jck at hck
        dsimp only at hck
        split at hck
        · cases hck
        · rename_i raw len hdec
          simp only [decide_eq_true_eq] at hck
          obtain ⟨rfl, rfl, hret⟩ := hck
          unfold jB at h
          dsimp only at h
          split at h
          · cases h
            exact hRV pc μ H locs ls hdec hret rfl hM2 hP hS
          · cases h
end JB
